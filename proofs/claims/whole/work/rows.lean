section
/-! the tables' words: PART A of the kit's skeleton -/
def lw_okq (q : MethodName × Nat) : Prop := (q.1.cls ≠ "java/lang/invoke/MethodHandle" ∧ q.1.cls ≠ "java/lang/invoke/VarHandle") ∧ Cond.instantiable q.1.cls q.2 ∈ tables_1 ∧ Cond.privateMethod q.1 ∈ tables_1 ∧ Cond.instanceMethod q.1 ∈ tables_1
theorem lw_p0 : lw_okq (⟨"LowHeads$Reader", "skipBlanks", "()V"⟩, 8) := ⟨⟨by decide +kernel, by decide +kernel⟩, List.mem_of_getElem? (i := 146) (by decide +kernel), List.mem_of_getElem? (i := 338) (by decide +kernel), List.mem_of_getElem? (i := 339) (by decide +kernel)⟩
theorem lw_p1 : lw_okq (⟨"LowHeads$Reader", "readClause", "()Z"⟩, 8) := ⟨⟨by decide +kernel, by decide +kernel⟩, List.mem_of_getElem? (i := 146) (by decide +kernel), List.mem_of_getElem? (i := 342) (by decide +kernel), List.mem_of_getElem? (i := 343) (by decide +kernel)⟩
theorem lw_p2 : lw_okq (⟨"LowHeads$Reader", "isWord", "(Ljava/lang/String;)Z"⟩, 8) := ⟨⟨by decide +kernel, by decide +kernel⟩, List.mem_of_getElem? (i := 146) (by decide +kernel), List.mem_of_getElem? (i := 347) (by decide +kernel), List.mem_of_getElem? (i := 348) (by decide +kernel)⟩
theorem lw_p3 : lw_okq (⟨"LowHeads$Reader", "readRoom", "()Z"⟩, 8) := ⟨⟨by decide +kernel, by decide +kernel⟩, List.mem_of_getElem? (i := 146) (by decide +kernel), List.mem_of_getElem? (i := 399) (by decide +kernel), List.mem_of_getElem? (i := 400) (by decide +kernel)⟩
theorem lw_p4 : lw_okq (⟨"LowHeads$Reader", "readNumber", "(II)Z"⟩, 8) := ⟨⟨by decide +kernel, by decide +kernel⟩, List.mem_of_getElem? (i := 146) (by decide +kernel), List.mem_of_getElem? (i := 403) (by decide +kernel), List.mem_of_getElem? (i := 404) (by decide +kernel)⟩
theorem lw_p5 : lw_okq (⟨"LowHeads$Reader", "isFault", "(II)Z"⟩, 8) := ⟨⟨by decide +kernel, by decide +kernel⟩, List.mem_of_getElem? (i := 146) (by decide +kernel), List.mem_of_getElem? (i := 407) (by decide +kernel), List.mem_of_getElem? (i := 408) (by decide +kernel)⟩
theorem lw_p6 : lw_okq (⟨"LowHeads$Reader", "takeSign", "(C)Z"⟩, 8) := ⟨⟨by decide +kernel, by decide +kernel⟩, List.mem_of_getElem? (i := 146) (by decide +kernel), List.mem_of_getElem? (i := 411) (by decide +kernel), List.mem_of_getElem? (i := 412) (by decide +kernel)⟩
theorem lw_p7 : lw_okq (⟨"LowHeads$Reader", "readEnd", "()Z"⟩, 8) := ⟨⟨by decide +kernel, by decide +kernel⟩, List.mem_of_getElem? (i := 146) (by decide +kernel), List.mem_of_getElem? (i := 415) (by decide +kernel), List.mem_of_getElem? (i := 416) (by decide +kernel)⟩
theorem lw_p8 : lw_okq (⟨"LowHeads$Reader", "readPerson", "()Z"⟩, 8) := ⟨⟨by decide +kernel, by decide +kernel⟩, List.mem_of_getElem? (i := 146) (by decide +kernel), List.mem_of_getElem? (i := 420) (by decide +kernel), List.mem_of_getElem? (i := 421) (by decide +kernel)⟩
theorem lw_p9 : lw_okq (⟨"LowHeads$Reader", "readFriends", "()Z"⟩, 8) := ⟨⟨by decide +kernel, by decide +kernel⟩, List.mem_of_getElem? (i := 146) (by decide +kernel), List.mem_of_getElem? (i := 425) (by decide +kernel), List.mem_of_getElem? (i := 426) (by decide +kernel)⟩
theorem lw_p10 : lw_okq (⟨"LowHeads", "isComing", "(III)Z"⟩, 12) := ⟨⟨by decide +kernel, by decide +kernel⟩, List.mem_of_getElem? (i := 18) (by decide +kernel), List.mem_of_getElem? (i := 536) (by decide +kernel), List.mem_of_getElem? (i := 537) (by decide +kernel)⟩
theorem lw_p11 : lw_okq (⟨"LowHeads$Evening", "tallOf", "(I)I"⟩, 2) := ⟨⟨by decide +kernel, by decide +kernel⟩, List.mem_of_getElem? (i := 133) (by decide +kernel), List.mem_of_getElem? (i := 591) (by decide +kernel), List.mem_of_getElem? (i := 592) (by decide +kernel)⟩
theorem lw_p12 : lw_okq (⟨"LowHeads$Evening", "nextLimit", "(II)I"⟩, 2) := ⟨⟨by decide +kernel, by decide +kernel⟩, List.mem_of_getElem? (i := 133) (by decide +kernel), List.mem_of_getElem? (i := 596) (by decide +kernel), List.mem_of_getElem? (i := 597) (by decide +kernel)⟩
theorem lw_p13 : lw_okq (⟨"LowHeads$Evening", "moveDownOrOut", "(II)V"⟩, 2) := ⟨⟨by decide +kernel, by decide +kernel⟩, List.mem_of_getElem? (i := 133) (by decide +kernel), List.mem_of_getElem? (i := 623) (by decide +kernel), List.mem_of_getElem? (i := 624) (by decide +kernel)⟩
theorem lw_p14 : lw_okq (⟨"LowHeads$Evening", "lowestFree", "(I)I"⟩, 2) := ⟨⟨by decide +kernel, by decide +kernel⟩, List.mem_of_getElem? (i := 133) (by decide +kernel), List.mem_of_getElem? (i := 627) (by decide +kernel), List.mem_of_getElem? (i := 628) (by decide +kernel)⟩
theorem lw_p15 : lw_okq (⟨"LowHeads$PartySearch", "findBest", "(II)Z"⟩, 11) := ⟨⟨by decide +kernel, by decide +kernel⟩, List.mem_of_getElem? (i := 184) (by decide +kernel), List.mem_of_getElem? (i := 646) (by decide +kernel), List.mem_of_getElem? (i := 647) (by decide +kernel)⟩
def lw_privs_1 : List (MethodName × Nat) := [(⟨"LowHeads$Reader", "skipBlanks", "()V"⟩, 8), (⟨"LowHeads$Reader", "readClause", "()Z"⟩, 8), (⟨"LowHeads$Reader", "isWord", "(Ljava/lang/String;)Z"⟩, 8), (⟨"LowHeads$Reader", "readRoom", "()Z"⟩, 8), (⟨"LowHeads$Reader", "readNumber", "(II)Z"⟩, 8), (⟨"LowHeads$Reader", "isFault", "(II)Z"⟩, 8), (⟨"LowHeads$Reader", "takeSign", "(C)Z"⟩, 8), (⟨"LowHeads$Reader", "readEnd", "()Z"⟩, 8), (⟨"LowHeads$Reader", "readPerson", "()Z"⟩, 8), (⟨"LowHeads$Reader", "readFriends", "()Z"⟩, 8), (⟨"LowHeads", "isComing", "(III)Z"⟩, 12), (⟨"LowHeads$Evening", "tallOf", "(I)I"⟩, 2), (⟨"LowHeads$Evening", "nextLimit", "(II)I"⟩, 2), (⟨"LowHeads$Evening", "moveDownOrOut", "(II)V"⟩, 2), (⟨"LowHeads$Evening", "lowestFree", "(I)I"⟩, 2), (⟨"LowHeads$PartySearch", "findBest", "(II)Z"⟩, 11)]
theorem lw_r1 : ∀ q ∈ lw_privs_1, lw_okq q := List.forall_mem_cons.mpr ⟨lw_p0, List.forall_mem_cons.mpr ⟨lw_p1, List.forall_mem_cons.mpr ⟨lw_p2, List.forall_mem_cons.mpr ⟨lw_p3, List.forall_mem_cons.mpr ⟨lw_p4, List.forall_mem_cons.mpr ⟨lw_p5, List.forall_mem_cons.mpr ⟨lw_p6, List.forall_mem_cons.mpr ⟨lw_p7, List.forall_mem_cons.mpr ⟨lw_p8, List.forall_mem_cons.mpr ⟨lw_p9, List.forall_mem_cons.mpr ⟨lw_p10, List.forall_mem_cons.mpr ⟨lw_p11, List.forall_mem_cons.mpr ⟨lw_p12, List.forall_mem_cons.mpr ⟨lw_p13, List.forall_mem_cons.mpr ⟨lw_p14, List.forall_mem_cons.mpr ⟨lw_p15, fun _ h => absurd h List.not_mem_nil⟩⟩⟩⟩⟩⟩⟩⟩⟩⟩⟩⟩⟩⟩⟩⟩
theorem lw_p16 : lw_okq (⟨"LowHeads$PartySearch", "orderByAge", "(I)V"⟩, 11) := ⟨⟨by decide +kernel, by decide +kernel⟩, List.mem_of_getElem? (i := 184) (by decide +kernel), List.mem_of_getElem? (i := 651) (by decide +kernel), List.mem_of_getElem? (i := 652) (by decide +kernel)⟩
theorem lw_p17 : lw_okq (⟨"LowHeads$PartySearch", "lookAtFloors", "()V"⟩, 11) := ⟨⟨by decide +kernel, by decide +kernel⟩, List.mem_of_getElem? (i := 184) (by decide +kernel), List.mem_of_getElem? (i := 656) (by decide +kernel), List.mem_of_getElem? (i := 657) (by decide +kernel)⟩
theorem lw_p18 : lw_okq (⟨"LowHeads$PartySearch", "placeFrom", "(IIII)V"⟩, 11) := ⟨⟨by decide +kernel, by decide +kernel⟩, List.mem_of_getElem? (i := 184) (by decide +kernel), List.mem_of_getElem? (i := 663) (by decide +kernel), List.mem_of_getElem? (i := 664) (by decide +kernel)⟩
theorem lw_p19 : lw_okq (⟨"LowHeads$PartySearch", "limitBehind", "(II)I"⟩, 11) := ⟨⟨by decide +kernel, by decide +kernel⟩, List.mem_of_getElem? (i := 184) (by decide +kernel), List.mem_of_getElem? (i := 671) (by decide +kernel), List.mem_of_getElem? (i := 672) (by decide +kernel)⟩
theorem lw_p20 : lw_okq (⟨"LowHeads$PartySearch", "leastOfRest", "(II)I"⟩, 11) := ⟨⟨by decide +kernel, by decide +kernel⟩, List.mem_of_getElem? (i := 184) (by decide +kernel), List.mem_of_getElem? (i := 675) (by decide +kernel), List.mem_of_getElem? (i := 676) (by decide +kernel)⟩
theorem lw_p21 : lw_okq (⟨"LowHeads$PartySearch", "forgetIfGrown", "()V"⟩, 11) := ⟨⟨by decide +kernel, by decide +kernel⟩, List.mem_of_getElem? (i := 184) (by decide +kernel), List.mem_of_getElem? (i := 699) (by decide +kernel), List.mem_of_getElem? (i := 700) (by decide +kernel)⟩
theorem lw_p22 : lw_okq (⟨"LowHeads$PartySearch", "indexOf", "(II)I"⟩, 11) := ⟨⟨by decide +kernel, by decide +kernel⟩, List.mem_of_getElem? (i := 184) (by decide +kernel), List.mem_of_getElem? (i := 704) (by decide +kernel), List.mem_of_getElem? (i := 705) (by decide +kernel)⟩
theorem lw_p23 : lw_okq (⟨"LowHeads$FeastSearch", "dealFrom", "(III)V"⟩, 7) := ⟨⟨by decide +kernel, by decide +kernel⟩, List.mem_of_getElem? (i := 224) (by decide +kernel), List.mem_of_getElem? (i := 709) (by decide +kernel), List.mem_of_getElem? (i := 710) (by decide +kernel)⟩
theorem lw_p24 : lw_okq (⟨"LowHeads$FeastSearch", "weigh", "(I)V"⟩, 7) := ⟨⟨by decide +kernel, by decide +kernel⟩, List.mem_of_getElem? (i := 224) (by decide +kernel), List.mem_of_getElem? (i := 713) (by decide +kernel), List.mem_of_getElem? (i := 714) (by decide +kernel)⟩
theorem lw_p25 : lw_okq (⟨"LowHeads", "placeInRow", "(II)V"⟩, 12) := ⟨⟨by decide +kernel, by decide +kernel⟩, List.mem_of_getElem? (i := 18) (by decide +kernel), List.mem_of_getElem? (i := 743) (by decide +kernel), List.mem_of_getElem? (i := 744) (by decide +kernel)⟩
theorem lw_p26 : lw_okq (⟨"LowHeads", "suspectsIn", "(I)I"⟩, 12) := ⟨⟨by decide +kernel, by decide +kernel⟩, List.mem_of_getElem? (i := 18) (by decide +kernel), List.mem_of_getElem? (i := 764) (by decide +kernel), List.mem_of_getElem? (i := 765) (by decide +kernel)⟩
theorem lw_p27 : lw_okq (⟨"LowHeads", "someAgeIsLawful", "(II)Z"⟩, 12) := ⟨⟨by decide +kernel, by decide +kernel⟩, List.mem_of_getElem? (i := 18) (by decide +kernel), List.mem_of_getElem? (i := 768) (by decide +kernel), List.mem_of_getElem? (i := 769) (by decide +kernel)⟩
theorem lw_p28 : lw_okq (⟨"LowHeads", "heelsIn", "(I)I"⟩, 12) := ⟨⟨by decide +kernel, by decide +kernel⟩, List.mem_of_getElem? (i := 18) (by decide +kernel), List.mem_of_getElem? (i := 776) (by decide +kernel), List.mem_of_getElem? (i := 777) (by decide +kernel)⟩
theorem lw_p29 : lw_okq (⟨"LowHeads$Evening", "drawOf", "(I)I"⟩, 2) := ⟨⟨by decide +kernel, by decide +kernel⟩, List.mem_of_getElem? (i := 133) (by decide +kernel), List.mem_of_getElem? (i := 804) (by decide +kernel), List.mem_of_getElem? (i := 805) (by decide +kernel)⟩
theorem lw_p30 : lw_okq (⟨"LowHeads", "isImage", "(I)Z"⟩, 12) := ⟨⟨by decide +kernel, by decide +kernel⟩, List.mem_of_getElem? (i := 18) (by decide +kernel), List.mem_of_getElem? (i := 826) (by decide +kernel), List.mem_of_getElem? (i := 827) (by decide +kernel)⟩
theorem lw_p31 : lw_okq (⟨"LowHeadsModel", "begin", "()V"⟩, 51) := ⟨⟨by decide +kernel, by decide +kernel⟩, List.mem_of_getElem? (i := 834) (by decide +kernel), List.mem_of_getElem? (i := 840) (by decide +kernel), List.mem_of_getElem? (i := 841) (by decide +kernel)⟩
def lw_privs_2 : List (MethodName × Nat) := [(⟨"LowHeads$PartySearch", "orderByAge", "(I)V"⟩, 11), (⟨"LowHeads$PartySearch", "lookAtFloors", "()V"⟩, 11), (⟨"LowHeads$PartySearch", "placeFrom", "(IIII)V"⟩, 11), (⟨"LowHeads$PartySearch", "limitBehind", "(II)I"⟩, 11), (⟨"LowHeads$PartySearch", "leastOfRest", "(II)I"⟩, 11), (⟨"LowHeads$PartySearch", "forgetIfGrown", "()V"⟩, 11), (⟨"LowHeads$PartySearch", "indexOf", "(II)I"⟩, 11), (⟨"LowHeads$FeastSearch", "dealFrom", "(III)V"⟩, 7), (⟨"LowHeads$FeastSearch", "weigh", "(I)V"⟩, 7), (⟨"LowHeads", "placeInRow", "(II)V"⟩, 12), (⟨"LowHeads", "suspectsIn", "(I)I"⟩, 12), (⟨"LowHeads", "someAgeIsLawful", "(II)Z"⟩, 12), (⟨"LowHeads", "heelsIn", "(I)I"⟩, 12), (⟨"LowHeads$Evening", "drawOf", "(I)I"⟩, 2), (⟨"LowHeads", "isImage", "(I)Z"⟩, 12), (⟨"LowHeadsModel", "begin", "()V"⟩, 51)]
theorem lw_r2 : ∀ q ∈ lw_privs_2, lw_okq q := List.forall_mem_cons.mpr ⟨lw_p16, List.forall_mem_cons.mpr ⟨lw_p17, List.forall_mem_cons.mpr ⟨lw_p18, List.forall_mem_cons.mpr ⟨lw_p19, List.forall_mem_cons.mpr ⟨lw_p20, List.forall_mem_cons.mpr ⟨lw_p21, List.forall_mem_cons.mpr ⟨lw_p22, List.forall_mem_cons.mpr ⟨lw_p23, List.forall_mem_cons.mpr ⟨lw_p24, List.forall_mem_cons.mpr ⟨lw_p25, List.forall_mem_cons.mpr ⟨lw_p26, List.forall_mem_cons.mpr ⟨lw_p27, List.forall_mem_cons.mpr ⟨lw_p28, List.forall_mem_cons.mpr ⟨lw_p29, List.forall_mem_cons.mpr ⟨lw_p30, List.forall_mem_cons.mpr ⟨lw_p31, fun _ h => absurd h List.not_mem_nil⟩⟩⟩⟩⟩⟩⟩⟩⟩⟩⟩⟩⟩⟩⟩⟩
theorem lw_p32 : lw_okq (⟨"LowHeadsModel", "here", "()I"⟩, 51) := ⟨⟨by decide +kernel, by decide +kernel⟩, List.mem_of_getElem? (i := 834) (by decide +kernel), List.mem_of_getElem? (i := 1013) (by decide +kernel), List.mem_of_getElem? (i := 1014) (by decide +kernel)⟩
theorem lw_p33 : lw_okq (⟨"LowHeadsModel", "takeClause", "()I"⟩, 51) := ⟨⟨by decide +kernel, by decide +kernel⟩, List.mem_of_getElem? (i := 834) (by decide +kernel), List.mem_of_getElem? (i := 1017) (by decide +kernel), List.mem_of_getElem? (i := 1018) (by decide +kernel)⟩
theorem lw_p34 : lw_okq (⟨"LowHeadsModel", "readWord", "()V"⟩, 51) := ⟨⟨by decide +kernel, by decide +kernel⟩, List.mem_of_getElem? (i := 834) (by decide +kernel), List.mem_of_getElem? (i := 1021) (by decide +kernel), List.mem_of_getElem? (i := 1022) (by decide +kernel)⟩
theorem lw_p35 : lw_okq (⟨"LowHeadsModel", "fails", "(II)I"⟩, 51) := ⟨⟨by decide +kernel, by decide +kernel⟩, List.mem_of_getElem? (i := 834) (by decide +kernel), List.mem_of_getElem? (i := 1038) (by decide +kernel), List.mem_of_getElem? (i := 1039) (by decide +kernel)⟩
theorem lw_p36 : lw_okq (⟨"LowHeadsModel", "takeRoom", "()I"⟩, 51) := ⟨⟨by decide +kernel, by decide +kernel⟩, List.mem_of_getElem? (i := 834) (by decide +kernel), List.mem_of_getElem? (i := 1042) (by decide +kernel), List.mem_of_getElem? (i := 1043) (by decide +kernel)⟩
theorem lw_p37 : lw_okq (⟨"LowHeadsModel", "takeNumber", "(II)I"⟩, 51) := ⟨⟨by decide +kernel, by decide +kernel⟩, List.mem_of_getElem? (i := 834) (by decide +kernel), List.mem_of_getElem? (i := 1046) (by decide +kernel), List.mem_of_getElem? (i := 1047) (by decide +kernel)⟩
theorem lw_p38 : lw_okq (⟨"LowHeadsModel", "takePerson", "()I"⟩, 51) := ⟨⟨by decide +kernel, by decide +kernel⟩, List.mem_of_getElem? (i := 834) (by decide +kernel), List.mem_of_getElem? (i := 1052) (by decide +kernel), List.mem_of_getElem? (i := 1053) (by decide +kernel)⟩
theorem lw_p39 : lw_okq (⟨"LowHeadsModel", "into", "([IIII)I"⟩, 51) := ⟨⟨by decide +kernel, by decide +kernel⟩, List.mem_of_getElem? (i := 834) (by decide +kernel), List.mem_of_getElem? (i := 1056) (by decide +kernel), List.mem_of_getElem? (i := 1057) (by decide +kernel)⟩
theorem lw_p40 : lw_okq (⟨"LowHeadsModel", "takeFriends", "()I"⟩, 51) := ⟨⟨by decide +kernel, by decide +kernel⟩, List.mem_of_getElem? (i := 834) (by decide +kernel), List.mem_of_getElem? (i := 1060) (by decide +kernel), List.mem_of_getElem? (i := 1061) (by decide +kernel)⟩
theorem lw_p41 : lw_okq (⟨"LowHeadsModel", "somewhere", "()I"⟩, 51) := ⟨⟨by decide +kernel, by decide +kernel⟩, List.mem_of_getElem? (i := 834) (by decide +kernel), List.mem_of_getElem? (i := 1072) (by decide +kernel), List.mem_of_getElem? (i := 1073) (by decide +kernel)⟩
theorem lw_p42 : lw_okq (⟨"LowHeadsModel", "isRoom", "(I)Z"⟩, 51) := ⟨⟨by decide +kernel, by decide +kernel⟩, List.mem_of_getElem? (i := 834) (by decide +kernel), List.mem_of_getElem? (i := 1080) (by decide +kernel), List.mem_of_getElem? (i := 1081) (by decide +kernel)⟩
theorem lw_p43 : lw_okq (⟨"LowHeadsModel", "isPlace", "(II)Z"⟩, 51) := ⟨⟨by decide +kernel, by decide +kernel⟩, List.mem_of_getElem? (i := 834) (by decide +kernel), List.mem_of_getElem? (i := 1084) (by decide +kernel), List.mem_of_getElem? (i := 1085) (by decide +kernel)⟩
theorem lw_p44 : lw_okq (⟨"LowHeadsModel", "whoAt", "(II)I"⟩, 51) := ⟨⟨by decide +kernel, by decide +kernel⟩, List.mem_of_getElem? (i := 834) (by decide +kernel), List.mem_of_getElem? (i := 1089) (by decide +kernel), List.mem_of_getElem? (i := 1090) (by decide +kernel)⟩
theorem lw_p45 : lw_okq (⟨"LowHeadsModel", "isPerson", "(I)Z"⟩, 51) := ⟨⟨by decide +kernel, by decide +kernel⟩, List.mem_of_getElem? (i := 834) (by decide +kernel), List.mem_of_getElem? (i := 1097) (by decide +kernel), List.mem_of_getElem? (i := 1098) (by decide +kernel)⟩
theorem lw_p46 : lw_okq (⟨"LowHeadsModel", "headOf", "(I)I"⟩, 51) := ⟨⟨by decide +kernel, by decide +kernel⟩, List.mem_of_getElem? (i := 834) (by decide +kernel), List.mem_of_getElem? (i := 1101) (by decide +kernel), List.mem_of_getElem? (i := 1102) (by decide +kernel)⟩
theorem lw_p47 : lw_okq (⟨"LowHeadsModel", "tallAt", "(III)I"⟩, 51) := ⟨⟨by decide +kernel, by decide +kernel⟩, List.mem_of_getElem? (i := 834) (by decide +kernel), List.mem_of_getElem? (i := 1105) (by decide +kernel), List.mem_of_getElem? (i := 1106) (by decide +kernel)⟩
def lw_privs_3 : List (MethodName × Nat) := [(⟨"LowHeadsModel", "here", "()I"⟩, 51), (⟨"LowHeadsModel", "takeClause", "()I"⟩, 51), (⟨"LowHeadsModel", "readWord", "()V"⟩, 51), (⟨"LowHeadsModel", "fails", "(II)I"⟩, 51), (⟨"LowHeadsModel", "takeRoom", "()I"⟩, 51), (⟨"LowHeadsModel", "takeNumber", "(II)I"⟩, 51), (⟨"LowHeadsModel", "takePerson", "()I"⟩, 51), (⟨"LowHeadsModel", "into", "([IIII)I"⟩, 51), (⟨"LowHeadsModel", "takeFriends", "()I"⟩, 51), (⟨"LowHeadsModel", "somewhere", "()I"⟩, 51), (⟨"LowHeadsModel", "isRoom", "(I)Z"⟩, 51), (⟨"LowHeadsModel", "isPlace", "(II)Z"⟩, 51), (⟨"LowHeadsModel", "whoAt", "(II)I"⟩, 51), (⟨"LowHeadsModel", "isPerson", "(I)Z"⟩, 51), (⟨"LowHeadsModel", "headOf", "(I)I"⟩, 51), (⟨"LowHeadsModel", "tallAt", "(III)I"⟩, 51)]
theorem lw_r3 : ∀ q ∈ lw_privs_3, lw_okq q := List.forall_mem_cons.mpr ⟨lw_p32, List.forall_mem_cons.mpr ⟨lw_p33, List.forall_mem_cons.mpr ⟨lw_p34, List.forall_mem_cons.mpr ⟨lw_p35, List.forall_mem_cons.mpr ⟨lw_p36, List.forall_mem_cons.mpr ⟨lw_p37, List.forall_mem_cons.mpr ⟨lw_p38, List.forall_mem_cons.mpr ⟨lw_p39, List.forall_mem_cons.mpr ⟨lw_p40, List.forall_mem_cons.mpr ⟨lw_p41, List.forall_mem_cons.mpr ⟨lw_p42, List.forall_mem_cons.mpr ⟨lw_p43, List.forall_mem_cons.mpr ⟨lw_p44, List.forall_mem_cons.mpr ⟨lw_p45, List.forall_mem_cons.mpr ⟨lw_p46, List.forall_mem_cons.mpr ⟨lw_p47, fun _ h => absurd h List.not_mem_nil⟩⟩⟩⟩⟩⟩⟩⟩⟩⟩⟩⟩⟩⟩⟩⟩
theorem lw_p48 : lw_okq (⟨"LowHeadsModel", "mayCome", "(III)Z"⟩, 51) := ⟨⟨by decide +kernel, by decide +kernel⟩, List.mem_of_getElem? (i := 834) (by decide +kernel), List.mem_of_getElem? (i := 1121) (by decide +kernel), List.mem_of_getElem? (i := 1122) (by decide +kernel)⟩
theorem lw_p49 : lw_okq (⟨"LowHeadsModel", "isIn", "(I)I"⟩, 51) := ⟨⟨by decide +kernel, by decide +kernel⟩, List.mem_of_getElem? (i := 834) (by decide +kernel), List.mem_of_getElem? (i := 1126) (by decide +kernel), List.mem_of_getElem? (i := 1127) (by decide +kernel)⟩
theorem lw_p50 : lw_okq (⟨"LowHeadsModel", "leaveNow", "(I)V"⟩, 51) := ⟨⟨by decide +kernel, by decide +kernel⟩, List.mem_of_getElem? (i := 834) (by decide +kernel), List.mem_of_getElem? (i := 1134) (by decide +kernel), List.mem_of_getElem? (i := 1135) (by decide +kernel)⟩
theorem lw_p51 : lw_okq (⟨"LowHeadsModel", "firstFault", "(I)I"⟩, 51) := ⟨⟨by decide +kernel, by decide +kernel⟩, List.mem_of_getElem? (i := 834) (by decide +kernel), List.mem_of_getElem? (i := 1146) (by decide +kernel), List.mem_of_getElem? (i := 1147) (by decide +kernel)⟩
theorem lw_p52 : lw_okq (⟨"LowHeadsModel", "tooHigh", "(II)I"⟩, 51) := ⟨⟨by decide +kernel, by decide +kernel⟩, List.mem_of_getElem? (i := 834) (by decide +kernel), List.mem_of_getElem? (i := 1150) (by decide +kernel), List.mem_of_getElem? (i := 1151) (by decide +kernel)⟩
theorem lw_p53 : lw_okq (⟨"LowHeadsModel", "eldest", "(I)I"⟩, 51) := ⟨⟨by decide +kernel, by decide +kernel⟩, List.mem_of_getElem? (i := 834) (by decide +kernel), List.mem_of_getElem? (i := 1154) (by decide +kernel), List.mem_of_getElem? (i := 1155) (by decide +kernel)⟩
theorem lw_p54 : lw_okq (⟨"LowHeadsModel", "bowNow", "(I)I"⟩, 51) := ⟨⟨by decide +kernel, by decide +kernel⟩, List.mem_of_getElem? (i := 834) (by decide +kernel), List.mem_of_getElem? (i := 1165) (by decide +kernel), List.mem_of_getElem? (i := 1166) (by decide +kernel)⟩
theorem lw_p55 : lw_okq (⟨"LowHeadsModel", "takeTall", "(I)V"⟩, 51) := ⟨⟨by decide +kernel, by decide +kernel⟩, List.mem_of_getElem? (i := 834) (by decide +kernel), List.mem_of_getElem? (i := 1169) (by decide +kernel), List.mem_of_getElem? (i := 1170) (by decide +kernel)⟩
theorem lw_p56 : lw_okq (⟨"LowHeadsModel", "bowAll", "(I)I"⟩, 51) := ⟨⟨by decide +kernel, by decide +kernel⟩, List.mem_of_getElem? (i := 834) (by decide +kernel), List.mem_of_getElem? (i := 1173) (by decide +kernel), List.mem_of_getElem? (i := 1174) (by decide +kernel)⟩
theorem lw_p57 : lw_okq (⟨"LowHeadsModel", "yearNow", "()V"⟩, 51) := ⟨⟨by decide +kernel, by decide +kernel⟩, List.mem_of_getElem? (i := 834) (by decide +kernel), List.mem_of_getElem? (i := 1183) (by decide +kernel), List.mem_of_getElem? (i := 1184) (by decide +kernel)⟩
theorem lw_p58 : lw_okq (⟨"LowHeadsModel", "faultRooms", "()I"⟩, 51) := ⟨⟨by decide +kernel, by decide +kernel⟩, List.mem_of_getElem? (i := 834) (by decide +kernel), List.mem_of_getElem? (i := 1187) (by decide +kernel), List.mem_of_getElem? (i := 1188) (by decide +kernel)⟩
theorem lw_p59 : lw_okq (⟨"LowHeadsModel", "comeNow", "(III)I"⟩, 51) := ⟨⟨by decide +kernel, by decide +kernel⟩, List.mem_of_getElem? (i := 834) (by decide +kernel), List.mem_of_getElem? (i := 1195) (by decide +kernel), List.mem_of_getElem? (i := 1196) (by decide +kernel)⟩
theorem lw_p60 : lw_okq (⟨"LowHeadsModel", "lowestFree", "(I)I"⟩, 51) := ⟨⟨by decide +kernel, by decide +kernel⟩, List.mem_of_getElem? (i := 834) (by decide +kernel), List.mem_of_getElem? (i := 1199) (by decide +kernel), List.mem_of_getElem? (i := 1200) (by decide +kernel)⟩
theorem lw_p61 : lw_okq (⟨"LowHeadsModel", "isSet", "(I)Z"⟩, 51) := ⟨⟨by decide +kernel, by decide +kernel⟩, List.mem_of_getElem? (i := 834) (by decide +kernel), List.mem_of_getElem? (i := 1207) (by decide +kernel), List.mem_of_getElem? (i := 1208) (by decide +kernel)⟩
theorem lw_p62 : lw_okq (⟨"LowHeadsModel", "partyOf", "(II)I"⟩, 51) := ⟨⟨by decide +kernel, by decide +kernel⟩, List.mem_of_getElem? (i := 834) (by decide +kernel), List.mem_of_getElem? (i := 1211) (by decide +kernel), List.mem_of_getElem? (i := 1212) (by decide +kernel)⟩
theorem lw_p63 : lw_okq (⟨"LowHeadsModel", "isParty", "(III)Z"⟩, 51) := ⟨⟨by decide +kernel, by decide +kernel⟩, List.mem_of_getElem? (i := 834) (by decide +kernel), List.mem_of_getElem? (i := 1218) (by decide +kernel), List.mem_of_getElem? (i := 1219) (by decide +kernel)⟩
def lw_privs_4 : List (MethodName × Nat) := [(⟨"LowHeadsModel", "mayCome", "(III)Z"⟩, 51), (⟨"LowHeadsModel", "isIn", "(I)I"⟩, 51), (⟨"LowHeadsModel", "leaveNow", "(I)V"⟩, 51), (⟨"LowHeadsModel", "firstFault", "(I)I"⟩, 51), (⟨"LowHeadsModel", "tooHigh", "(II)I"⟩, 51), (⟨"LowHeadsModel", "eldest", "(I)I"⟩, 51), (⟨"LowHeadsModel", "bowNow", "(I)I"⟩, 51), (⟨"LowHeadsModel", "takeTall", "(I)V"⟩, 51), (⟨"LowHeadsModel", "bowAll", "(I)I"⟩, 51), (⟨"LowHeadsModel", "yearNow", "()V"⟩, 51), (⟨"LowHeadsModel", "faultRooms", "()I"⟩, 51), (⟨"LowHeadsModel", "comeNow", "(III)I"⟩, 51), (⟨"LowHeadsModel", "lowestFree", "(I)I"⟩, 51), (⟨"LowHeadsModel", "isSet", "(I)Z"⟩, 51), (⟨"LowHeadsModel", "partyOf", "(II)I"⟩, 51), (⟨"LowHeadsModel", "isParty", "(III)Z"⟩, 51)]
theorem lw_r4 : ∀ q ∈ lw_privs_4, lw_okq q := List.forall_mem_cons.mpr ⟨lw_p48, List.forall_mem_cons.mpr ⟨lw_p49, List.forall_mem_cons.mpr ⟨lw_p50, List.forall_mem_cons.mpr ⟨lw_p51, List.forall_mem_cons.mpr ⟨lw_p52, List.forall_mem_cons.mpr ⟨lw_p53, List.forall_mem_cons.mpr ⟨lw_p54, List.forall_mem_cons.mpr ⟨lw_p55, List.forall_mem_cons.mpr ⟨lw_p56, List.forall_mem_cons.mpr ⟨lw_p57, List.forall_mem_cons.mpr ⟨lw_p58, List.forall_mem_cons.mpr ⟨lw_p59, List.forall_mem_cons.mpr ⟨lw_p60, List.forall_mem_cons.mpr ⟨lw_p61, List.forall_mem_cons.mpr ⟨lw_p62, List.forall_mem_cons.mpr ⟨lw_p63, fun _ h => absurd h List.not_mem_nil⟩⟩⟩⟩⟩⟩⟩⟩⟩⟩⟩⟩⟩⟩⟩⟩
theorem lw_p64 : lw_okq (⟨"LowHeadsModel", "bowsOf", "(I)I"⟩, 51) := ⟨⟨by decide +kernel, by decide +kernel⟩, List.mem_of_getElem? (i := 834) (by decide +kernel), List.mem_of_getElem? (i := 1222) (by decide +kernel), List.mem_of_getElem? (i := 1223) (by decide +kernel)⟩
theorem lw_p65 : lw_okq (⟨"LowHeadsModel", "findFeast", "(I)I"⟩, 51) := ⟨⟨by decide +kernel, by decide +kernel⟩, List.mem_of_getElem? (i := 834) (by decide +kernel), List.mem_of_getElem? (i := 1230) (by decide +kernel), List.mem_of_getElem? (i := 1231) (by decide +kernel)⟩
theorem lw_p66 : lw_okq (⟨"LowHeadsModel", "deal", "(II)V"⟩, 51) := ⟨⟨by decide +kernel, by decide +kernel⟩, List.mem_of_getElem? (i := 834) (by decide +kernel), List.mem_of_getElem? (i := 1234) (by decide +kernel), List.mem_of_getElem? (i := 1235) (by decide +kernel)⟩
theorem lw_p67 : lw_okq (⟨"LowHeadsModel", "sumOf", "(I)I"⟩, 51) := ⟨⟨by decide +kernel, by decide +kernel⟩, List.mem_of_getElem? (i := 834) (by decide +kernel), List.mem_of_getElem? (i := 1238) (by decide +kernel), List.mem_of_getElem? (i := 1239) (by decide +kernel)⟩
theorem lw_p68 : lw_okq (⟨"LowHeadsModel", "weightOf", "(I)I"⟩, 51) := ⟨⟨by decide +kernel, by decide +kernel⟩, List.mem_of_getElem? (i := 834) (by decide +kernel), List.mem_of_getElem? (i := 1242) (by decide +kernel), List.mem_of_getElem? (i := 1243) (by decide +kernel)⟩
theorem lw_p69 : lw_okq (⟨"LowHeadsModel", "isSuspect", "(II)Z"⟩, 51) := ⟨⟨by decide +kernel, by decide +kernel⟩, List.mem_of_getElem? (i := 834) (by decide +kernel), List.mem_of_getElem? (i := 1258) (by decide +kernel), List.mem_of_getElem? (i := 1259) (by decide +kernel)⟩
theorem lw_p70 : lw_okq (⟨"LowHeadsModel", "isAged", "(II)Z"⟩, 51) := ⟨⟨by decide +kernel, by decide +kernel⟩, List.mem_of_getElem? (i := 834) (by decide +kernel), List.mem_of_getElem? (i := 1262) (by decide +kernel), List.mem_of_getElem? (i := 1263) (by decide +kernel)⟩
theorem lw_p71 : lw_okq (⟨"LowHeadsModel", "isHeeled", "(II)Z"⟩, 51) := ⟨⟨by decide +kernel, by decide +kernel⟩, List.mem_of_getElem? (i := 834) (by decide +kernel), List.mem_of_getElem? (i := 1266) (by decide +kernel), List.mem_of_getElem? (i := 1267) (by decide +kernel)⟩
theorem lw_p72 : lw_okq (⟨"LowHeadsModel", "save", "(I)V"⟩, 51) := ⟨⟨by decide +kernel, by decide +kernel⟩, List.mem_of_getElem? (i := 834) (by decide +kernel), List.mem_of_getElem? (i := 1282) (by decide +kernel), List.mem_of_getElem? (i := 1283) (by decide +kernel)⟩
theorem lw_p73 : lw_okq (⟨"LowHeadsModel", "load", "(I)V"⟩, 51) := ⟨⟨by decide +kernel, by decide +kernel⟩, List.mem_of_getElem? (i := 834) (by decide +kernel), List.mem_of_getElem? (i := 1286) (by decide +kernel), List.mem_of_getElem? (i := 1287) (by decide +kernel)⟩
theorem lw_p74 : lw_okq (⟨"LowHeadsModel", "draw", "(I)I"⟩, 51) := ⟨⟨by decide +kernel, by decide +kernel⟩, List.mem_of_getElem? (i := 834) (by decide +kernel), List.mem_of_getElem? (i := 1295) (by decide +kernel), List.mem_of_getElem? (i := 1296) (by decide +kernel)⟩
def lw_privs_5 : List (MethodName × Nat) := [(⟨"LowHeadsModel", "bowsOf", "(I)I"⟩, 51), (⟨"LowHeadsModel", "findFeast", "(I)I"⟩, 51), (⟨"LowHeadsModel", "deal", "(II)V"⟩, 51), (⟨"LowHeadsModel", "sumOf", "(I)I"⟩, 51), (⟨"LowHeadsModel", "weightOf", "(I)I"⟩, 51), (⟨"LowHeadsModel", "isSuspect", "(II)Z"⟩, 51), (⟨"LowHeadsModel", "isAged", "(II)Z"⟩, 51), (⟨"LowHeadsModel", "isHeeled", "(II)Z"⟩, 51), (⟨"LowHeadsModel", "save", "(I)V"⟩, 51), (⟨"LowHeadsModel", "load", "(I)V"⟩, 51), (⟨"LowHeadsModel", "draw", "(I)I"⟩, 51)]
theorem lw_r5 : ∀ q ∈ lw_privs_5, lw_okq q := List.forall_mem_cons.mpr ⟨lw_p64, List.forall_mem_cons.mpr ⟨lw_p65, List.forall_mem_cons.mpr ⟨lw_p66, List.forall_mem_cons.mpr ⟨lw_p67, List.forall_mem_cons.mpr ⟨lw_p68, List.forall_mem_cons.mpr ⟨lw_p69, List.forall_mem_cons.mpr ⟨lw_p70, List.forall_mem_cons.mpr ⟨lw_p71, List.forall_mem_cons.mpr ⟨lw_p72, List.forall_mem_cons.mpr ⟨lw_p73, List.forall_mem_cons.mpr ⟨lw_p74, fun _ h => absurd h List.not_mem_nil⟩⟩⟩⟩⟩⟩⟩⟩⟩⟩⟩
def lw_privs : List (MethodName × Nat) := lw_privs_1 ++ (lw_privs_2 ++ (lw_privs_3 ++ (lw_privs_4 ++ (lw_privs_5))))
def lw_tbl : List Cond := k2_sels lw_privs ++ tables_1
theorem lw_privs_ok : ∀ q ∈ lw_privs, lw_okq q := by
  show ∀ q ∈ lw_privs_1 ++ (lw_privs_2 ++ (lw_privs_3 ++ (lw_privs_4 ++ (lw_privs_5)))), lw_okq q
  exact List.forall_mem_append.mpr ⟨lw_r1, List.forall_mem_append.mpr ⟨lw_r2, List.forall_mem_append.mpr ⟨lw_r3, List.forall_mem_append.mpr ⟨lw_r4, lw_r5⟩⟩⟩⟩
end
section
/-! names, as the claim prints them -/
def RX0 : String := "LowHeads$Book"
def TX0 : u_T := fun k => match k with
  | 0 => ("LowHeads$Book", "person", "[I", true)
  | 1 => ("LowHeads$Book", "room", "[I", true)
  | 2 => ("LowHeads$Book", "place", "[I", true)
  | _ => ("LowHeads$Book", "count", "I", false)
def tyX0 : Nat → FieldType := fun k => match k with
  | 0 => .array .int
  | 1 => .array .int
  | 2 => .array .int
  | _ => .int
theorem nmX0 : ∀ a, a < 4 → ∀ b, b < 4 → a ≠ b → (TX0 a).2.1 ≠ (TX0 b).2.1 := by decide +kernel
theorem tyX0_ok : ∀ k, k < 4 → parseFieldDescriptor (TX0 k).2.2.1 = some (tyX0 k) := by decide +kernel
abbrev cX0_init : ByteArray := prog_2_method_1_code
def yX0_init : MethodName := ⟨RX0, "<init>", "()V"⟩
abbrev cX0_append : ByteArray := prog_2_method_2_code
def yX0_append : MethodName := ⟨RX0, "append", "(III)V"⟩
def RX1 : String := "LowHeads$Evening"
def TX1 : u_T := fun k => match k with
  | 0 => ("LowHeads$Evening", "house", "LLowHeads$House;", true)
  | _ => ("LowHeads$Evening", "scene", "LLowHeads$Scene;", true)
def tyX1 : Nat → FieldType := fun k => match k with
  | 0 => .object "LowHeads$House"
  | _ => .object "LowHeads$Scene"
theorem nmX1 : ∀ a, a < 2 → ∀ b, b < 2 → a ≠ b → (TX1 a).2.1 ≠ (TX1 b).2.1 := by decide +kernel
theorem tyX1_ok : ∀ k, k < 2 → parseFieldDescriptor (TX1 k).2.2.1 = some (tyX1 k) := by decide +kernel
abbrev cX1_init : ByteArray := prog_3_method_1_code
def yX1_init : MethodName := ⟨RX1, "<init>", "(LLowHeads$House;LLowHeads$Scene;)V"⟩
abbrev cX1_tallOf : ByteArray := prog_3_method_2_code
def yX1_tallOf : MethodName := ⟨RX1, "tallOf", "(I)I"⟩
abbrev cX1_headOf : ByteArray := prog_3_method_3_code
def yX1_headOf : MethodName := ⟨RX1, "headOf", "(I)I"⟩
abbrev cX1_excessOf : ByteArray := prog_3_method_4_code
def yX1_excessOf : MethodName := ⟨RX1, "excessOf", "(II)I"⟩
abbrev cX1_firstTooHigh : ByteArray := prog_3_method_5_code
def yX1_firstTooHigh : MethodName := ⟨RX1, "firstTooHigh", "(I)I"⟩
abbrev cX1_roomsWithFault : ByteArray := prog_3_method_6_code
def yX1_roomsWithFault : MethodName := ⟨RX1, "roomsWithFault", "()I"⟩
abbrev cX1_allBow : ByteArray := prog_3_method_7_code
def yX1_allBow : MethodName := ⟨RX1, "allBow", "(I)I"⟩
abbrev cX1_nextLimit : ByteArray := prog_3_method_8_code
def yX1_nextLimit : MethodName := ⟨RX1, "nextLimit", "(II)I"⟩
abbrev cX1_passYear : ByteArray := prog_3_method_9_code
def yX1_passYear : MethodName := ⟨RX1, "passYear", "()V"⟩
abbrev cX1_comesIn : ByteArray := prog_3_method_10_code
def yX1_comesIn : MethodName := ⟨RX1, "comesIn", "(III)I"⟩
abbrev cX1_moveDownOrOut : ByteArray := prog_3_method_11_code
def yX1_moveDownOrOut : MethodName := ⟨RX1, "moveDownOrOut", "(II)V"⟩
abbrev cX1_lowestFree : ByteArray := prog_3_method_12_code
def yX1_lowestFree : MethodName := ⟨RX1, "lowestFree", "(I)I"⟩
abbrev cX1_inchesToCut : ByteArray := prog_3_method_13_code
def yX1_inchesToCut : MethodName := ⟨RX1, "inchesToCut", "(I)I"⟩
abbrev cX1_passByDraw : ByteArray := prog_3_method_14_code
def yX1_passByDraw : MethodName := ⟨RX1, "passByDraw", "()I"⟩
abbrev cX1_drawOf : ByteArray := prog_3_method_15_code
def yX1_drawOf : MethodName := ⟨RX1, "drawOf", "(I)I"⟩
def RX2 : String := "LowHeads$FeastSearch"
def TX2 : u_T := fun k => match k with
  | 0 => ("LowHeads$FeastSearch", "house", "LLowHeads$House;", true)
  | 1 => ("LowHeads$FeastSearch", "parties", "LLowHeads$PartySearch;", true)
  | 2 => ("LowHeads$FeastSearch", "part", "[I", true)
  | 3 => ("LowHeads$FeastSearch", "bestPart", "[I", true)
  | 4 => ("LowHeads$FeastSearch", "found", "Z", false)
  | 5 => ("LowHeads$FeastSearch", "leastBends", "I", false)
  | _ => ("LowHeads$FeastSearch", "mostFriends", "I", false)
def tyX2 : Nat → FieldType := fun k => match k with
  | 0 => .object "LowHeads$House"
  | 1 => .object "LowHeads$PartySearch"
  | 2 => .array .int
  | 3 => .array .int
  | 4 => .boolean
  | 5 => .int
  | _ => .int
theorem nmX2 : ∀ a, a < 7 → ∀ b, b < 7 → a ≠ b → (TX2 a).2.1 ≠ (TX2 b).2.1 := by decide +kernel
theorem tyX2_ok : ∀ k, k < 7 → parseFieldDescriptor (TX2 k).2.2.1 = some (tyX2 k) := by decide +kernel
abbrev cX2_init : ByteArray := prog_4_method_1_code
def yX2_init : MethodName := ⟨RX2, "<init>", "(LLowHeads$House;LLowHeads$PartySearch;)V"⟩
abbrev cX2_findDeal : ByteArray := prog_4_method_2_code
def yX2_findDeal : MethodName := ⟨RX2, "findDeal", "(I)Z"⟩
abbrev cX2_roomFor : ByteArray := prog_4_method_3_code
def yX2_roomFor : MethodName := ⟨RX2, "roomFor", "(I)I"⟩
abbrev cX2_dealFrom : ByteArray := prog_4_method_4_code
def yX2_dealFrom : MethodName := ⟨RX2, "dealFrom", "(III)V"⟩
abbrev cX2_weigh : ByteArray := prog_4_method_5_code
def yX2_weigh : MethodName := ⟨RX2, "weigh", "(I)V"⟩
def RX3 : String := "LowHeads$House"
def TX3 : u_T := fun k => match k with
  | 0 => ("LowHeads$House", "rooms", "I", false)
  | 1 => ("LowHeads$House", "persons", "I", false)
  | 2 => ("LowHeads$House", "friendships", "I", false)
  | 3 => ("LowHeads$House", "places", "[I", true)
  | 4 => ("LowHeads$House", "floors", "[I", true)
  | 5 => ("LowHeads$House", "ageAtFirst", "[I", true)
  | 6 => ("LowHeads$House", "inchesAtFirst", "[I", true)
  | 7 => ("LowHeads$House", "knees", "[I", true)
  | 8 => ("LowHeads$House", "grows", "[I", true)
  | _ => ("LowHeads$House", "weights", "[I", true)
def tyX3 : Nat → FieldType := fun k => match k with
  | 0 => .int
  | 1 => .int
  | 2 => .int
  | 3 => .array .int
  | 4 => .array .int
  | 5 => .array .int
  | 6 => .array .int
  | 7 => .array .int
  | 8 => .array .int
  | _ => .array .int
theorem nmX3 : ∀ a, a < 10 → ∀ b, b < 10 → a ≠ b → (TX3 a).2.1 ≠ (TX3 b).2.1 := by decide +kernel
theorem tyX3_ok : ∀ k, k < 10 → parseFieldDescriptor (TX3 k).2.2.1 = some (tyX3 k) := by decide +kernel
abbrev cX3_init : ByteArray := prog_5_method_1_code
def yX3_init : MethodName := ⟨RX3, "<init>", "()V"⟩
abbrev cX3_clearAll : ByteArray := prog_5_method_2_code
def yX3_clearAll : MethodName := ⟨RX3, "clearAll", "()V"⟩
abbrev cX3_copyFrom : ByteArray := prog_5_method_3_code
def yX3_copyFrom : MethodName := ⟨RX3, "copyFrom", "(LLowHeads$House;)V"⟩
abbrev cX3_hasRoom : ByteArray := prog_5_method_4_code
def yX3_hasRoom : MethodName := ⟨RX3, "hasRoom", "(I)Z"⟩
abbrev cX3_hasPlace : ByteArray := prog_5_method_5_code
def yX3_hasPlace : MethodName := ⟨RX3, "hasPlace", "(II)Z"⟩
abbrev cX3_hasPerson : ByteArray := prog_5_method_6_code
def yX3_hasPerson : MethodName := ⟨RX3, "hasPerson", "(I)Z"⟩
abbrev cX3_hasAll : ByteArray := prog_5_method_7_code
def yX3_hasAll : MethodName := ⟨RX3, "hasAll", "(I)Z"⟩
abbrev cX3_placesOf : ByteArray := prog_5_method_8_code
def yX3_placesOf : MethodName := ⟨RX3, "placesOf", "(I)I"⟩
abbrev cX3_floorAt : ByteArray := prog_5_method_9_code
def yX3_floorAt : MethodName := ⟨RX3, "floorAt", "(II)I"⟩
abbrev cX3_friendship : ByteArray := prog_5_method_10_code
def yX3_friendship : MethodName := ⟨RX3, "friendship", "(II)I"⟩
abbrev cX3_friendshipWithAll : ByteArray := prog_5_method_11_code
def yX3_friendshipWithAll : MethodName := ⟨RX3, "friendshipWithAll", "(II)I"⟩
def RX4 : String := "LowHeads$PartySearch"
def TX4 : u_T := fun k => match k with
  | 0 => ("LowHeads$PartySearch", "house", "LLowHeads$House;", true)
  | 1 => ("LowHeads$PartySearch", "scene", "LLowHeads$Scene;", true)
  | 2 => ("LowHeads$PartySearch", "order", "[I", true)
  | 3 => ("LowHeads$PartySearch", "likeAhead", "[I", true)
  | 4 => ("LowHeads$PartySearch", "sums", "[I", true)
  | 5 => ("LowHeads$PartySearch", "inchesThen", "[I", true)
  | 6 => ("LowHeads$PartySearch", "guests", "I", false)
  | 7 => ("LowHeads$PartySearch", "room", "I", false)
  | 8 => ("LowHeads$PartySearch", "lowestFloor", "I", false)
  | 9 => ("LowHeads$PartySearch", "placesCount", "Z", false)
  | _ => ("LowHeads$PartySearch", "best", "I", false)
def tyX4 : Nat → FieldType := fun k => match k with
  | 0 => .object "LowHeads$House"
  | 1 => .object "LowHeads$Scene"
  | 2 => .array .int
  | 3 => .array .int
  | 4 => .array .int
  | 5 => .array .int
  | 6 => .int
  | 7 => .int
  | 8 => .int
  | 9 => .boolean
  | _ => .int
theorem nmX4 : ∀ a, a < 11 → ∀ b, b < 11 → a ≠ b → (TX4 a).2.1 ≠ (TX4 b).2.1 := by decide +kernel
theorem tyX4_ok : ∀ k, k < 11 → parseFieldDescriptor (TX4 k).2.2.1 = some (tyX4 k) := by decide +kernel
abbrev cX4_init : ByteArray := prog_6_method_1_code
def yX4_init : MethodName := ⟨RX4, "<init>", "(LLowHeads$House;LLowHeads$Scene;)V"⟩
abbrev cX4_forget : ByteArray := prog_6_method_2_code
def yX4_forget : MethodName := ⟨RX4, "forget", "()V"⟩
abbrev cX4_forgetIfGrown : ByteArray := prog_6_method_3_code
def yX4_forgetIfGrown : MethodName := ⟨RX4, "forgetIfGrown", "()V"⟩
abbrev cX4_findSums : ByteArray := prog_6_method_4_code
def yX4_findSums : MethodName := ⟨RX4, "findSums", "(I)V"⟩
abbrev cX4_sumOf : ByteArray := prog_6_method_5_code
def yX4_sumOf : MethodName := ⟨RX4, "sumOf", "(II)I"⟩
abbrev cX4_indexOf : ByteArray := prog_6_method_6_code
def yX4_indexOf : MethodName := ⟨RX4, "indexOf", "(II)I"⟩
abbrev cX4_findPlaces : ByteArray := prog_6_method_7_code
def yX4_findPlaces : MethodName := ⟨RX4, "findPlaces", "(II)Z"⟩
abbrev cX4_leastSum : ByteArray := prog_6_method_8_code
def yX4_leastSum : MethodName := ⟨RX4, "leastSum", "()I"⟩
abbrev cX4_placeOf : ByteArray := prog_6_method_9_code
def yX4_placeOf : MethodName := ⟨RX4, "placeOf", "(I)I"⟩
abbrev cX4_shiftOf : ByteArray := prog_6_method_10_code
def yX4_shiftOf : MethodName := ⟨RX4, "shiftOf", "(I)I"⟩
abbrev cX4_findBest : ByteArray := prog_6_method_11_code
def yX4_findBest : MethodName := ⟨RX4, "findBest", "(II)Z"⟩
abbrev cX4_orderByAge : ByteArray := prog_6_method_12_code
def yX4_orderByAge : MethodName := ⟨RX4, "orderByAge", "(I)V"⟩
abbrev cX4_lookAtFloors : ByteArray := prog_6_method_13_code
def yX4_lookAtFloors : MethodName := ⟨RX4, "lookAtFloors", "()V"⟩
abbrev cX4_placeFrom : ByteArray := prog_6_method_14_code
def yX4_placeFrom : MethodName := ⟨RX4, "placeFrom", "(IIII)V"⟩
abbrev cX4_leastOfRest : ByteArray := prog_6_method_15_code
def yX4_leastOfRest : MethodName := ⟨RX4, "leastOfRest", "(II)I"⟩
abbrev cX4_limitBehind : ByteArray := prog_6_method_16_code
def yX4_limitBehind : MethodName := ⟨RX4, "limitBehind", "(II)I"⟩
def RX5 : String := "LowHeads$Reader"
def TX5 : u_T := fun k => match k with
  | 0 => ("LowHeads$Reader", "draft", "LLowHeads$House;", true)
  | 1 => ("LowHeads$Reader", "length", "I", false)
  | 2 => ("LowHeads$Reader", "faultNumber", "I", false)
  | 3 => ("LowHeads$Reader", "faultByte", "I", false)
  | 4 => ("LowHeads$Reader", "text", "[B", true)
  | 5 => ("LowHeads$Reader", "at", "I", false)
  | 6 => ("LowHeads$Reader", "start", "I", false)
  | _ => ("LowHeads$Reader", "value", "I", false)
def tyX5 : Nat → FieldType := fun k => match k with
  | 0 => .object "LowHeads$House"
  | 1 => .int
  | 2 => .int
  | 3 => .int
  | 4 => .array .byte
  | 5 => .int
  | 6 => .int
  | _ => .int
theorem nmX5 : ∀ a, a < 8 → ∀ b, b < 8 → a ≠ b → (TX5 a).2.1 ≠ (TX5 b).2.1 := by decide +kernel
theorem tyX5_ok : ∀ k, k < 8 → parseFieldDescriptor (TX5 k).2.2.1 = some (tyX5 k) := by decide +kernel
abbrev cX5_init : ByteArray := prog_7_method_1_code
def yX5_init : MethodName := ⟨RX5, "<init>", "()V"⟩
abbrev cX5_takeBytes : ByteArray := prog_7_method_2_code
def yX5_takeBytes : MethodName := ⟨RX5, "takeBytes", "(IJ)V"⟩
abbrev cX5_readAll : ByteArray := prog_7_method_3_code
def yX5_readAll : MethodName := ⟨RX5, "readAll", "()V"⟩
abbrev cX5_readClause : ByteArray := prog_7_method_4_code
def yX5_readClause : MethodName := ⟨RX5, "readClause", "()Z"⟩
abbrev cX5_readRoom : ByteArray := prog_7_method_5_code
def yX5_readRoom : MethodName := ⟨RX5, "readRoom", "()Z"⟩
abbrev cX5_readPerson : ByteArray := prog_7_method_6_code
def yX5_readPerson : MethodName := ⟨RX5, "readPerson", "()Z"⟩
abbrev cX5_readFriends : ByteArray := prog_7_method_7_code
def yX5_readFriends : MethodName := ⟨RX5, "readFriends", "()Z"⟩
abbrev cX5_readEnd : ByteArray := prog_7_method_8_code
def yX5_readEnd : MethodName := ⟨RX5, "readEnd", "()Z"⟩
abbrev cX5_isFault : ByteArray := prog_7_method_9_code
def yX5_isFault : MethodName := ⟨RX5, "isFault", "(II)Z"⟩
abbrev cX5_skipBlanks : ByteArray := prog_7_method_10_code
def yX5_skipBlanks : MethodName := ⟨RX5, "skipBlanks", "()V"⟩
abbrev cX5_takeSign : ByteArray := prog_7_method_11_code
def yX5_takeSign : MethodName := ⟨RX5, "takeSign", "(C)Z"⟩
abbrev cX5_isWord : ByteArray := prog_7_method_12_code
def yX5_isWord : MethodName := ⟨RX5, "isWord", "(Ljava/lang/String;)Z"⟩
abbrev cX5_readNumber : ByteArray := prog_7_method_13_code
def yX5_readNumber : MethodName := ⟨RX5, "readNumber", "(II)Z"⟩
def RX6 : String := "LowHeads$Scene"
def TX6 : u_T := fun k => match k with
  | 0 => ("LowHeads$Scene", "roomOf", "[I", true)
  | 1 => ("LowHeads$Scene", "placeOf", "[I", true)
  | 2 => ("LowHeads$Scene", "bendOf", "[I", true)
  | 3 => ("LowHeads$Scene", "age", "[I", true)
  | 4 => ("LowHeads$Scene", "inches", "[I", true)
  | 5 => ("LowHeads$Scene", "law", "I", false)
  | _ => ("LowHeads$Scene", "seed", "I", false)
def tyX6 : Nat → FieldType := fun k => match k with
  | 0 => .array .int
  | 1 => .array .int
  | 2 => .array .int
  | 3 => .array .int
  | 4 => .array .int
  | 5 => .int
  | _ => .int
theorem nmX6 : ∀ a, a < 7 → ∀ b, b < 7 → a ≠ b → (TX6 a).2.1 ≠ (TX6 b).2.1 := by decide +kernel
theorem tyX6_ok : ∀ k, k < 7 → parseFieldDescriptor (TX6 k).2.2.1 = some (tyX6 k) := by decide +kernel
abbrev cX6_init : ByteArray := prog_8_method_1_code
def yX6_init : MethodName := ⟨RX6, "<init>", "()V"⟩
abbrev cX6_begin : ByteArray := prog_8_method_2_code
def yX6_begin : MethodName := ⟨RX6, "begin", "(LLowHeads$House;)V"⟩
abbrev cX6_copyFrom : ByteArray := prog_8_method_3_code
def yX6_copyFrom : MethodName := ⟨RX6, "copyFrom", "(LLowHeads$Scene;)V"⟩
abbrev cX6_standAt : ByteArray := prog_8_method_4_code
def yX6_standAt : MethodName := ⟨RX6, "standAt", "(III)V"⟩
abbrev cX6_goOut : ByteArray := prog_8_method_5_code
def yX6_goOut : MethodName := ⟨RX6, "goOut", "(I)V"⟩
abbrev cX6_sendAllOut : ByteArray := prog_8_method_6_code
def yX6_sendAllOut : MethodName := ⟨RX6, "sendAllOut", "()V"⟩
abbrev cX6_whoIsAt : ByteArray := prog_8_method_7_code
def yX6_whoIsAt : MethodName := ⟨RX6, "whoIsAt", "(II)I"⟩
abbrev cX6_whoIsIn : ByteArray := prog_8_method_8_code
def yX6_whoIsIn : MethodName := ⟨RX6, "whoIsIn", "(I)I"⟩
abbrev cX6_whoIsOlderIn : ByteArray := prog_8_method_9_code
def yX6_whoIsOlderIn : MethodName := ⟨RX6, "whoIsOlderIn", "(II)I"⟩
abbrev cX6_somewhere : ByteArray := prog_8_method_10_code
def yX6_somewhere : MethodName := ⟨RX6, "somewhere", "()I"⟩
abbrev cX6_canStandAt : ByteArray := prog_8_method_11_code
def yX6_canStandAt : MethodName := ⟨RX6, "canStandAt", "(III)Z"⟩
abbrev cX6_someoneHasAge : ByteArray := prog_8_method_12_code
def yX6_someoneHasAge : MethodName := ⟨RX6, "someoneHasAge", "(II)Z"⟩
abbrev cX6_eldestOf : ByteArray := prog_8_method_13_code
def yX6_eldestOf : MethodName := ⟨RX6, "eldestOf", "(I)I"⟩
def RX7 : String := "LowHeads"
def TX7 : u_T := fun k => match k with
  | 0 => ("LowHeads", "home", "LLowHeads$House;", true)
  | 1 => ("LowHeads", "scene", "LLowHeads$Scene;", true)
  | 2 => ("LowHeads", "now", "LLowHeads$Evening;", true)
  | 3 => ("LowHeads", "trialScene", "LLowHeads$Scene;", true)
  | 4 => ("LowHeads", "trial", "LLowHeads$Evening;", true)
  | 5 => ("LowHeads", "reader", "LLowHeads$Reader;", true)
  | 6 => ("LowHeads", "parties", "LLowHeads$PartySearch;", true)
  | 7 => ("LowHeads", "feasts", "LLowHeads$FeastSearch;", true)
  | 8 => ("LowHeads", "book", "LLowHeads$Book;", true)
  | 9 => ("LowHeads", "images", "[LLowHeads$Scene;", true)
  | 10 => ("LowHeads", "kept", "[Z", true)
  | _ => ("LowHeads", "faultByte", "I", false)
def tyX7 : Nat → FieldType := fun k => match k with
  | 0 => .object "LowHeads$House"
  | 1 => .object "LowHeads$Scene"
  | 2 => .object "LowHeads$Evening"
  | 3 => .object "LowHeads$Scene"
  | 4 => .object "LowHeads$Evening"
  | 5 => .object "LowHeads$Reader"
  | 6 => .object "LowHeads$PartySearch"
  | 7 => .object "LowHeads$FeastSearch"
  | 8 => .object "LowHeads$Book"
  | 9 => .array (.object "LowHeads$Scene")
  | 10 => .array .boolean
  | _ => .int
theorem nmX7 : ∀ a, a < 12 → ∀ b, b < 12 → a ≠ b → (TX7 a).2.1 ≠ (TX7 b).2.1 := by decide +kernel
theorem tyX7_ok : ∀ k, k < 12 → parseFieldDescriptor (TX7 k).2.2.1 = some (tyX7 k) := by decide +kernel
abbrev cX7_init : ByteArray := prog_1_method_1_code
def yX7_init : MethodName := ⟨RX7, "<init>", "()V"⟩
abbrev cX7_feed : ByteArray := prog_1_method_2_code
def yX7_feed : MethodName := ⟨RX7, "feed", "(IJ)I"⟩
abbrev cX7_house : ByteArray := prog_1_method_3_code
def yX7_house : MethodName := ⟨RX7, "house", "()I"⟩
abbrev cX7_fault : ByteArray := prog_1_method_4_code
def yX7_fault : MethodName := ⟨RX7, "fault", "()I"⟩
abbrev cX7_told : ByteArray := prog_1_method_5_code
def yX7_told : MethodName := ⟨RX7, "told", "(I)I"⟩
abbrev cX7_room : ByteArray := prog_1_method_6_code
def yX7_room : MethodName := ⟨RX7, "room", "(III)I"⟩
abbrev cX7_person : ByteArray := prog_1_method_7_code
def yX7_person : MethodName := ⟨RX7, "person", "(II)I"⟩
abbrev cX7_friends : ByteArray := prog_1_method_8_code
def yX7_friends : MethodName := ⟨RX7, "friends", "(II)I"⟩
abbrev cX7_law : ByteArray := prog_1_method_9_code
def yX7_law : MethodName := ⟨RX7, "law", "(I)I"⟩
abbrev cX7_put : ByteArray := prog_1_method_10_code
def yX7_put : MethodName := ⟨RX7, "put", "(III)I"⟩
abbrev cX7_leave : ByteArray := prog_1_method_11_code
def yX7_leave : MethodName := ⟨RX7, "leave", "(I)I"⟩
abbrev cX7_bend : ByteArray := prog_1_method_12_code
def yX7_bend : MethodName := ⟨RX7, "bend", "(II)I"⟩
abbrev cX7_first : ByteArray := prog_1_method_13_code
def yX7_first : MethodName := ⟨RX7, "first", "(II)I"⟩
abbrev cX7_bow : ByteArray := prog_1_method_14_code
def yX7_bow : MethodName := ⟨RX7, "bow", "(I)I"⟩
abbrev cX7_year : ByteArray := prog_1_method_15_code
def yX7_year : MethodName := ⟨RX7, "year", "(I)I"⟩
abbrev cX7_come : ByteArray := prog_1_method_16_code
def yX7_come : MethodName := ⟨RX7, "come", "(III)I"⟩
abbrev cX7_party : ByteArray := prog_1_method_17_code
def yX7_party : MethodName := ⟨RX7, "party", "(III)I"⟩
abbrev cX7_feast : ByteArray := prog_1_method_18_code
def yX7_feast : MethodName := ⟨RX7, "feast", "(II)I"⟩
abbrev cX7_cuts : ByteArray := prog_1_method_19_code
def yX7_cuts : MethodName := ⟨RX7, "cuts", "(II)I"⟩
abbrev cX7_till : ByteArray := prog_1_method_20_code
def yX7_till : MethodName := ⟨RX7, "till", "()I"⟩
abbrev cX7_seen : ByteArray := prog_1_method_21_code
def yX7_seen : MethodName := ⟨RX7, "seen", "(II)I"⟩
abbrev cX7_write : ByteArray := prog_1_method_22_code
def yX7_write : MethodName := ⟨RX7, "write", "(III)I"⟩
abbrev cX7_tear : ByteArray := prog_1_method_23_code
def yX7_tear : MethodName := ⟨RX7, "tear", "()I"⟩
abbrev cX7_judge : ByteArray := prog_1_method_24_code
def yX7_judge : MethodName := ⟨RX7, "judge", "(I)I"⟩
abbrev cX7_drift : ByteArray := prog_1_method_25_code
def yX7_drift : MethodName := ⟨RX7, "drift", "(I)I"⟩
abbrev cX7_empty : ByteArray := prog_1_method_26_code
def yX7_empty : MethodName := ⟨RX7, "empty", "()I"⟩
abbrev cX7_seed : ByteArray := prog_1_method_27_code
def yX7_seed : MethodName := ⟨RX7, "seed", "(I)I"⟩
abbrev cX7_keep : ByteArray := prog_1_method_28_code
def yX7_keep : MethodName := ⟨RX7, "keep", "(I)I"⟩
abbrev cX7_goBack : ByteArray := prog_1_method_29_code
def yX7_goBack : MethodName := ⟨RX7, "goBack", "(I)I"⟩
abbrev cX7_isComing : ByteArray := prog_1_method_30_code
def yX7_isComing : MethodName := ⟨RX7, "isComing", "(III)Z"⟩
abbrev cX7_isImage : ByteArray := prog_1_method_31_code
def yX7_isImage : MethodName := ⟨RX7, "isImage", "(I)Z"⟩
abbrev cX7_placeInRow : ByteArray := prog_1_method_32_code
def yX7_placeInRow : MethodName := ⟨RX7, "placeInRow", "(II)V"⟩
abbrev cX7_suspectsIn : ByteArray := prog_1_method_33_code
def yX7_suspectsIn : MethodName := ⟨RX7, "suspectsIn", "(I)I"⟩
abbrev cX7_someAgeIsLawful : ByteArray := prog_1_method_34_code
def yX7_someAgeIsLawful : MethodName := ⟨RX7, "someAgeIsLawful", "(II)Z"⟩
abbrev cX7_heelsIn : ByteArray := prog_1_method_35_code
def yX7_heelsIn : MethodName := ⟨RX7, "heelsIn", "(I)I"⟩
abbrev cX7_copyRow : ByteArray := prog_1_method_36_code
def yX7_copyRow : MethodName := ⟨RX7, "copyRow", "([I[I)V"⟩
def RX8 : String := "LowHeadsModel"
def TX8 : u_T := fun k => match k with
  | 0 => ("LowHeadsModel", "rooms", "I", false)
  | 1 => ("LowHeadsModel", "places", "[I", true)
  | 2 => ("LowHeadsModel", "floors", "[I", true)
  | 3 => ("LowHeadsModel", "persons", "I", false)
  | 4 => ("LowHeadsModel", "toldAge", "[I", true)
  | 5 => ("LowHeadsModel", "toldInches", "[I", true)
  | 6 => ("LowHeadsModel", "knees", "[I", true)
  | 7 => ("LowHeadsModel", "grows", "[I", true)
  | 8 => ("LowHeadsModel", "pairs", "I", false)
  | 9 => ("LowHeadsModel", "weight", "[I", true)
  | 10 => ("LowHeadsModel", "law", "I", false)
  | 11 => ("LowHeadsModel", "age", "[I", true)
  | 12 => ("LowHeadsModel", "inches", "[I", true)
  | 13 => ("LowHeadsModel", "roomOf", "[I", true)
  | 14 => ("LowHeadsModel", "placeOf", "[I", true)
  | 15 => ("LowHeadsModel", "bent", "[I", true)
  | 16 => ("LowHeadsModel", "seed", "I", false)
  | 17 => ("LowHeadsModel", "text", "[I", true)
  | 18 => ("LowHeadsModel", "texted", "I", false)
  | 19 => ("LowHeadsModel", "faultPlace", "I", false)
  | 20 => ("LowHeadsModel", "at0", "I", false)
  | 21 => ("LowHeadsModel", "said", "J", false)
  | 22 => ("LowHeadsModel", "wordEnd", "I", false)
  | 23 => ("LowHeadsModel", "number", "I", false)
  | 24 => ("LowHeadsModel", "numberAt", "I", false)
  | 25 => ("LowHeadsModel", "readRooms", "I", false)
  | 26 => ("LowHeadsModel", "readPlaces", "[I", true)
  | 27 => ("LowHeadsModel", "readFloors", "[I", true)
  | 28 => ("LowHeadsModel", "readPersons", "I", false)
  | 29 => ("LowHeadsModel", "readAge", "[I", true)
  | 30 => ("LowHeadsModel", "readInches", "[I", true)
  | 31 => ("LowHeadsModel", "readKnees", "[I", true)
  | 32 => ("LowHeadsModel", "readGrows", "[I", true)
  | 33 => ("LowHeadsModel", "readPairs", "I", false)
  | 34 => ("LowHeadsModel", "readWeight", "[I", true)
  | 35 => ("LowHeadsModel", "tall", "[I", true)
  | 36 => ("LowHeadsModel", "bows", "[I", true)
  | 37 => ("LowHeadsModel", "partyAt", "[I", true)
  | 38 => ("LowHeadsModel", "bestAt", "[I", true)
  | 39 => ("LowHeadsModel", "sums", "[I", true)
  | 40 => ("LowHeadsModel", "dealt", "[I", true)
  | 41 => ("LowHeadsModel", "bestDealt", "[I", true)
  | 42 => ("LowHeadsModel", "bestWeight", "I", false)
  | 43 => ("LowHeadsModel", "wasAge", "[I", true)
  | 44 => ("LowHeadsModel", "wasInches", "[I", true)
  | 45 => ("LowHeadsModel", "booked", "I", false)
  | 46 => ("LowHeadsModel", "bookWho", "[I", true)
  | 47 => ("LowHeadsModel", "bookRoom", "[I", true)
  | 48 => ("LowHeadsModel", "bookPlace", "[I", true)
  | 49 => ("LowHeadsModel", "images", "[I", true)
  | _ => ("LowHeadsModel", "isKept", "[Z", true)
def tyX8 : Nat → FieldType := fun k => match k with
  | 0 => .int
  | 1 => .array .int
  | 2 => .array .int
  | 3 => .int
  | 4 => .array .int
  | 5 => .array .int
  | 6 => .array .int
  | 7 => .array .int
  | 8 => .int
  | 9 => .array .int
  | 10 => .int
  | 11 => .array .int
  | 12 => .array .int
  | 13 => .array .int
  | 14 => .array .int
  | 15 => .array .int
  | 16 => .int
  | 17 => .array .int
  | 18 => .int
  | 19 => .int
  | 20 => .int
  | 21 => .long
  | 22 => .int
  | 23 => .int
  | 24 => .int
  | 25 => .int
  | 26 => .array .int
  | 27 => .array .int
  | 28 => .int
  | 29 => .array .int
  | 30 => .array .int
  | 31 => .array .int
  | 32 => .array .int
  | 33 => .int
  | 34 => .array .int
  | 35 => .array .int
  | 36 => .array .int
  | 37 => .array .int
  | 38 => .array .int
  | 39 => .array .int
  | 40 => .array .int
  | 41 => .array .int
  | 42 => .int
  | 43 => .array .int
  | 44 => .array .int
  | 45 => .int
  | 46 => .array .int
  | 47 => .array .int
  | 48 => .array .int
  | 49 => .array .int
  | _ => .array .boolean
theorem nmX8 : ∀ a, a < 51 → ∀ b, b < 51 → a ≠ b → (TX8 a).2.1 ≠ (TX8 b).2.1 := by decide +kernel
theorem tyX8_ok : ∀ k, k < 51 → parseFieldDescriptor (TX8 k).2.2.1 = some (tyX8 k) := by decide +kernel
abbrev cX8_init : ByteArray := prog_10_method_1_code
def yX8_init : MethodName := ⟨RX8, "<init>", "()V"⟩
abbrev cX8_in : ByteArray := prog_10_method_3_code
def yX8_in : MethodName := ⟨RX8, "in", "(JJJ)Z"⟩
abbrev cX8_has : ByteArray := prog_10_method_4_code
def yX8_has : MethodName := ⟨RX8, "has", "(II)Z"⟩
abbrev cX8_bits : ByteArray := prog_10_method_5_code
def yX8_bits : MethodName := ⟨RX8, "bits", "(I)I"⟩
abbrev cX8_isRoom : ByteArray := prog_10_method_6_code
def yX8_isRoom : MethodName := ⟨RX8, "isRoom", "(I)Z"⟩
abbrev cX8_isPerson : ByteArray := prog_10_method_7_code
def yX8_isPerson : MethodName := ⟨RX8, "isPerson", "(I)Z"⟩
abbrev cX8_isPlace : ByteArray := prog_10_method_8_code
def yX8_isPlace : MethodName := ⟨RX8, "isPlace", "(II)Z"⟩
abbrev cX8_isSet : ByteArray := prog_10_method_9_code
def yX8_isSet : MethodName := ⟨RX8, "isSet", "(I)Z"⟩
abbrev cX8_begin : ByteArray := prog_10_method_10_code
def yX8_begin : MethodName := ⟨RX8, "begin", "()V"⟩
abbrev cX8_feed : ByteArray := prog_10_method_11_code
def yX8_feed : MethodName := ⟨RX8, "feed", "(IJ)I"⟩
abbrev cX8_here : ByteArray := prog_10_method_12_code
def yX8_here : MethodName := ⟨RX8, "here", "()I"⟩
abbrev cX8_fails : ByteArray := prog_10_method_13_code
def yX8_fails : MethodName := ⟨RX8, "fails", "(II)I"⟩
abbrev cX8_readWord : ByteArray := prog_10_method_14_code
def yX8_readWord : MethodName := ⟨RX8, "readWord", "()V"⟩
abbrev cX8_code : ByteArray := prog_10_method_15_code
def yX8_code : MethodName := ⟨RX8, "code", "(IIII)J"⟩
abbrev cX8_longer : ByteArray := prog_10_method_16_code
def yX8_longer : MethodName := ⟨RX8, "longer", "(JII)J"⟩
abbrev cX8_takeNumber : ByteArray := prog_10_method_17_code
def yX8_takeNumber : MethodName := ⟨RX8, "takeNumber", "(II)I"⟩
abbrev cX8_into : ByteArray := prog_10_method_18_code
def yX8_into : MethodName := ⟨RX8, "into", "([IIII)I"⟩
abbrev cX8_takeRoom : ByteArray := prog_10_method_19_code
def yX8_takeRoom : MethodName := ⟨RX8, "takeRoom", "()I"⟩
abbrev cX8_takePerson : ByteArray := prog_10_method_20_code
def yX8_takePerson : MethodName := ⟨RX8, "takePerson", "()I"⟩
abbrev cX8_takeFriends : ByteArray := prog_10_method_21_code
def yX8_takeFriends : MethodName := ⟨RX8, "takeFriends", "()I"⟩
abbrev cX8_takeClause : ByteArray := prog_10_method_22_code
def yX8_takeClause : MethodName := ⟨RX8, "takeClause", "()I"⟩
abbrev cX8_house : ByteArray := prog_10_method_23_code
def yX8_house : MethodName := ⟨RX8, "house", "()I"⟩
abbrev cX8_fault : ByteArray := prog_10_method_24_code
def yX8_fault : MethodName := ⟨RX8, "fault", "()I"⟩
abbrev cX8_isIn : ByteArray := prog_10_method_25_code
def yX8_isIn : MethodName := ⟨RX8, "isIn", "(I)I"⟩
abbrev cX8_somewhere : ByteArray := prog_10_method_26_code
def yX8_somewhere : MethodName := ⟨RX8, "somewhere", "()I"⟩
abbrev cX8_told : ByteArray := prog_10_method_27_code
def yX8_told : MethodName := ⟨RX8, "told", "(I)I"⟩
abbrev cX8_whoAt : ByteArray := prog_10_method_28_code
def yX8_whoAt : MethodName := ⟨RX8, "whoAt", "(II)I"⟩
abbrev cX8_room : ByteArray := prog_10_method_29_code
def yX8_room : MethodName := ⟨RX8, "room", "(III)I"⟩
abbrev cX8_tallAt : ByteArray := prog_10_method_30_code
def yX8_tallAt : MethodName := ⟨RX8, "tallAt", "(III)I"⟩
abbrev cX8_headOf : ByteArray := prog_10_method_31_code
def yX8_headOf : MethodName := ⟨RX8, "headOf", "(I)I"⟩
abbrev cX8_person : ByteArray := prog_10_method_32_code
def yX8_person : MethodName := ⟨RX8, "person", "(II)I"⟩
abbrev cX8_friends : ByteArray := prog_10_method_33_code
def yX8_friends : MethodName := ⟨RX8, "friends", "(II)I"⟩
abbrev cX8_law : ByteArray := prog_10_method_34_code
def yX8_law : MethodName := ⟨RX8, "law", "(I)I"⟩
abbrev cX8_mayCome : ByteArray := prog_10_method_35_code
def yX8_mayCome : MethodName := ⟨RX8, "mayCome", "(III)Z"⟩
abbrev cX8_put : ByteArray := prog_10_method_36_code
def yX8_put : MethodName := ⟨RX8, "put", "(III)I"⟩
abbrev cX8_leaveNow : ByteArray := prog_10_method_37_code
def yX8_leaveNow : MethodName := ⟨RX8, "leaveNow", "(I)V"⟩
abbrev cX8_leave : ByteArray := prog_10_method_38_code
def yX8_leave : MethodName := ⟨RX8, "leave", "(I)I"⟩
abbrev cX8_bend : ByteArray := prog_10_method_39_code
def yX8_bend : MethodName := ⟨RX8, "bend", "(II)I"⟩
abbrev cX8_eldest : ByteArray := prog_10_method_40_code
def yX8_eldest : MethodName := ⟨RX8, "eldest", "(I)I"⟩
abbrev cX8_tooHigh : ByteArray := prog_10_method_41_code
def yX8_tooHigh : MethodName := ⟨RX8, "tooHigh", "(II)I"⟩
abbrev cX8_firstFault : ByteArray := prog_10_method_42_code
def yX8_firstFault : MethodName := ⟨RX8, "firstFault", "(I)I"⟩
abbrev cX8_first : ByteArray := prog_10_method_43_code
def yX8_first : MethodName := ⟨RX8, "first", "(II)I"⟩
abbrev cX8_bowAll : ByteArray := prog_10_method_44_code
def yX8_bowAll : MethodName := ⟨RX8, "bowAll", "(I)I"⟩
abbrev cX8_takeTall : ByteArray := prog_10_method_45_code
def yX8_takeTall : MethodName := ⟨RX8, "takeTall", "(I)V"⟩
abbrev cX8_bowNow : ByteArray := prog_10_method_46_code
def yX8_bowNow : MethodName := ⟨RX8, "bowNow", "(I)I"⟩
abbrev cX8_bow : ByteArray := prog_10_method_47_code
def yX8_bow : MethodName := ⟨RX8, "bow", "(I)I"⟩
abbrev cX8_yearNow : ByteArray := prog_10_method_48_code
def yX8_yearNow : MethodName := ⟨RX8, "yearNow", "()V"⟩
abbrev cX8_faultRooms : ByteArray := prog_10_method_49_code
def yX8_faultRooms : MethodName := ⟨RX8, "faultRooms", "()I"⟩
abbrev cX8_year : ByteArray := prog_10_method_50_code
def yX8_year : MethodName := ⟨RX8, "year", "(I)I"⟩
abbrev cX8_lowestFree : ByteArray := prog_10_method_51_code
def yX8_lowestFree : MethodName := ⟨RX8, "lowestFree", "(I)I"⟩
abbrev cX8_comeNow : ByteArray := prog_10_method_52_code
def yX8_comeNow : MethodName := ⟨RX8, "comeNow", "(III)I"⟩
abbrev cX8_come : ByteArray := prog_10_method_53_code
def yX8_come : MethodName := ⟨RX8, "come", "(III)I"⟩
abbrev cX8_isParty : ByteArray := prog_10_method_54_code
def yX8_isParty : MethodName := ⟨RX8, "isParty", "(III)Z"⟩
abbrev cX8_partyOf : ByteArray := prog_10_method_55_code
def yX8_partyOf : MethodName := ⟨RX8, "partyOf", "(II)I"⟩
abbrev cX8_bowsOf : ByteArray := prog_10_method_56_code
def yX8_bowsOf : MethodName := ⟨RX8, "bowsOf", "(I)I"⟩
abbrev cX8_party : ByteArray := prog_10_method_57_code
def yX8_party : MethodName := ⟨RX8, "party", "(III)I"⟩
abbrev cX8_deal : ByteArray := prog_10_method_58_code
def yX8_deal : MethodName := ⟨RX8, "deal", "(II)V"⟩
abbrev cX8_sumOf : ByteArray := prog_10_method_59_code
def yX8_sumOf : MethodName := ⟨RX8, "sumOf", "(I)I"⟩
abbrev cX8_weightOf : ByteArray := prog_10_method_60_code
def yX8_weightOf : MethodName := ⟨RX8, "weightOf", "(I)I"⟩
abbrev cX8_findFeast : ByteArray := prog_10_method_61_code
def yX8_findFeast : MethodName := ⟨RX8, "findFeast", "(I)I"⟩
abbrev cX8_feast : ByteArray := prog_10_method_62_code
def yX8_feast : MethodName := ⟨RX8, "feast", "(II)I"⟩
abbrev cX8_cuts : ByteArray := prog_10_method_63_code
def yX8_cuts : MethodName := ⟨RX8, "cuts", "(II)I"⟩
abbrev cX8_till : ByteArray := prog_10_method_64_code
def yX8_till : MethodName := ⟨RX8, "till", "()I"⟩
abbrev cX8_isAged : ByteArray := prog_10_method_65_code
def yX8_isAged : MethodName := ⟨RX8, "isAged", "(II)Z"⟩
abbrev cX8_isSuspect : ByteArray := prog_10_method_66_code
def yX8_isSuspect : MethodName := ⟨RX8, "isSuspect", "(II)Z"⟩
abbrev cX8_isHeeled : ByteArray := prog_10_method_67_code
def yX8_isHeeled : MethodName := ⟨RX8, "isHeeled", "(II)Z"⟩
abbrev cX8_seen : ByteArray := prog_10_method_68_code
def yX8_seen : MethodName := ⟨RX8, "seen", "(II)I"⟩
abbrev cX8_write : ByteArray := prog_10_method_69_code
def yX8_write : MethodName := ⟨RX8, "write", "(III)I"⟩
abbrev cX8_tear : ByteArray := prog_10_method_70_code
def yX8_tear : MethodName := ⟨RX8, "tear", "()I"⟩
abbrev cX8_judge : ByteArray := prog_10_method_71_code
def yX8_judge : MethodName := ⟨RX8, "judge", "(I)I"⟩
abbrev cX8_draw : ByteArray := prog_10_method_72_code
def yX8_draw : MethodName := ⟨RX8, "draw", "(I)I"⟩
abbrev cX8_drift : ByteArray := prog_10_method_73_code
def yX8_drift : MethodName := ⟨RX8, "drift", "(I)I"⟩
abbrev cX8_empty : ByteArray := prog_10_method_74_code
def yX8_empty : MethodName := ⟨RX8, "empty", "()I"⟩
abbrev cX8_seed : ByteArray := prog_10_method_75_code
def yX8_seed : MethodName := ⟨RX8, "seed", "(I)I"⟩
abbrev cX8_save : ByteArray := prog_10_method_76_code
def yX8_save : MethodName := ⟨RX8, "save", "(I)V"⟩
abbrev cX8_load : ByteArray := prog_10_method_77_code
def yX8_load : MethodName := ⟨RX8, "load", "(I)V"⟩
abbrev cX8_keep : ByteArray := prog_10_method_78_code
def yX8_keep : MethodName := ⟨RX8, "keep", "(I)I"⟩
abbrev cX8_goBack : ByteArray := prog_10_method_79_code
def yX8_goBack : MethodName := ⟨RX8, "goBack", "(I)I"⟩
def RJ6 : String := "java/lang/Integer"
def TJ6 : u_T := fun k => match k with
  | _ => ("", "", "", false)
def tyJ6 : Nat → FieldType := fun k => match k with
  | _ => .int
theorem nmJ6 : ∀ a, a < 0 → ∀ b, b < 0 → a ≠ b → (TJ6 a).2.1 ≠ (TJ6 b).2.1 := by decide +kernel
theorem tyJ6_ok : ∀ k, k < 0 → parseFieldDescriptor (TJ6 k).2.2.1 = some (tyJ6 k) := by decide +kernel
abbrev cJ6_bitCount_0f7a4 : ByteArray := prog_11_method_49_code
def yJ6_bitCount_0f7a4 : MethodName := ⟨RJ6, "bitCount", "(I)I"⟩
def RJ9 : String := "java/lang/Math"
def TJ9 : u_T := fun k => match k with
  | _ => ("", "", "", false)
def tyJ9 : Nat → FieldType := fun k => match k with
  | _ => .int
theorem nmJ9 : ∀ a, a < 0 → ∀ b, b < 0 → a ≠ b → (TJ9 a).2.1 ≠ (TJ9 b).2.1 := by decide +kernel
theorem tyJ9_ok : ∀ k, k < 0 → parseFieldDescriptor (TJ9 k).2.2.1 = some (tyJ9 k) := by decide +kernel
abbrev cJ9_max_7cf53 : ByteArray := prog_12_method_65_code
def yJ9_max_7cf53 : MethodName := ⟨RJ9, "max", "(II)I"⟩
abbrev cJ9_min_7cf53 : ByteArray := prog_12_method_69_code
def yJ9_min_7cf53 : MethodName := ⟨RJ9, "min", "(II)I"⟩
def RJ0 : String := "java/lang/String"
def TJ0 : u_T := fun k => match k with
  | _ => ("", "", "", false)
def tyJ0 : Nat → FieldType := fun k => match k with
  | _ => .int
theorem nmJ0 : ∀ a, a < 0 → ∀ b, b < 0 → a ≠ b → (TJ0 a).2.1 ≠ (TJ0 b).2.1 := by decide +kernel
theorem tyJ0_ok : ∀ k, k < 0 → parseFieldDescriptor (TJ0 k).2.2.1 = some (tyJ0 k) := by decide +kernel
abbrev cJ0_length_8abf5 : ByteArray := prog_13_method_54_code
def yJ0_length_8abf5 : MethodName := ⟨RJ0, "length", "()I"⟩
abbrev cJ0_charAt_5068e : ByteArray := prog_13_method_56_code
def yJ0_charAt_5068e : MethodName := ⟨RJ0, "charAt", "(I)C"⟩
abbrev cJ0_coder_7d493 : ByteArray := prog_13_method_152_code
def yJ0_coder_7d493 : MethodName := ⟨RJ0, "coder", "()B"⟩
abbrev cJ0_isLatin1_aae02 : ByteArray := prog_13_method_154_code
def yJ0_isLatin1_aae02 : MethodName := ⟨RJ0, "isLatin1", "()Z"⟩
abbrev cJ0_checkIndex_df160 : ByteArray := prog_13_method_155_code
def yJ0_checkIndex_df160 : MethodName := ⟨RJ0, "checkIndex", "(II)V"⟩
def RJ1 : String := "java/lang/StringLatin1"
def TJ1 : u_T := fun k => match k with
  | _ => ("", "", "", false)
def tyJ1 : Nat → FieldType := fun k => match k with
  | _ => .int
theorem nmJ1 : ∀ a, a < 0 → ∀ b, b < 0 → a ≠ b → (TJ1 a).2.1 ≠ (TJ1 b).2.1 := by decide +kernel
theorem tyJ1_ok : ∀ k, k < 0 → parseFieldDescriptor (TJ1 k).2.2.1 = some (tyJ1 k) := by decide +kernel
abbrev cJ1_charAt_3b067 : ByteArray := prog_14_method_2_code
def yJ1_charAt_3b067 : MethodName := ⟨RJ1, "charAt", "([BI)C"⟩
def RJ2 : String := "java/lang/StringUTF16"
def TJ2 : u_T := fun k => match k with
  | _ => ("", "", "", false)
def tyJ2 : Nat → FieldType := fun k => match k with
  | _ => .int
theorem nmJ2 : ∀ a, a < 0 → ∀ b, b < 0 → a ≠ b → (TJ2 a).2.1 ≠ (TJ2 b).2.1 := by decide +kernel
theorem tyJ2_ok : ∀ k, k < 0 → parseFieldDescriptor (TJ2 k).2.2.1 = some (tyJ2 k) := by decide +kernel
abbrev cJ2_getChar_3b067 : ByteArray := prog_15_method_5_code
def yJ2_getChar_3b067 : MethodName := ⟨RJ2, "getChar", "([BI)C"⟩
abbrev cJ2_length_9d52b : ByteArray := prog_15_method_6_code
def yJ2_length_9d52b : MethodName := ⟨RJ2, "length", "([B)I"⟩
abbrev cJ2_charAt_3b067 : ByteArray := prog_15_method_83_code
def yJ2_charAt_3b067 : MethodName := ⟨RJ2, "charAt", "([BI)C"⟩
abbrev cJ2_checkIndex_2214a : ByteArray := prog_15_method_91_code
def yJ2_checkIndex_2214a : MethodName := ⟨RJ2, "checkIndex", "(I[B)V"⟩
def RJ10 : String := "java/lang/System"
def TJ10 : u_T := fun k => match k with
  | _ => ("", "", "", false)
def tyJ10 : Nat → FieldType := fun k => match k with
  | _ => .int
theorem nmJ10 : ∀ a, a < 0 → ∀ b, b < 0 → a ≠ b → (TJ10 a).2.1 ≠ (TJ10 b).2.1 := by decide +kernel
theorem tyJ10_ok : ∀ k, k < 0 → parseFieldDescriptor (TJ10 k).2.2.1 = some (tyJ10 k) := by decide +kernel
def RJ3 : String := "jdk/internal/util/Preconditions"
def TJ3 : u_T := fun k => match k with
  | _ => ("", "", "", false)
def tyJ3 : Nat → FieldType := fun k => match k with
  | _ => .int
theorem nmJ3 : ∀ a, a < 0 → ∀ b, b < 0 → a ≠ b → (TJ3 a).2.1 ≠ (TJ3 b).2.1 := by decide +kernel
theorem tyJ3_ok : ∀ k, k < 0 → parseFieldDescriptor (TJ3 k).2.2.1 = some (tyJ3 k) := by decide +kernel
abbrev cJ3_checkIndex_8e157 : ByteArray := prog_17_method_11_code
def yJ3_checkIndex_8e157 : MethodName := ⟨RJ3, "checkIndex", "(IILjava/util/function/BiFunction;)I"⟩
def RL : String := "LowHeadsLaw"
abbrev cL_law : ByteArray := code
def yL_law : MethodName := ⟨RL, "law", "([I)Z"⟩
end
section
theorem dJ0_length_8abf5_0 : decode cJ0_length_8abf5 0 = .ok (.aload_n 0, 1) := by decide +kernel
theorem dJ0_length_8abf5_1 : decode cJ0_length_8abf5 1 = .ok (.getfield 9, 3) := by decide +kernel
theorem dJ0_length_8abf5_4 : decode cJ0_length_8abf5 4 = .ok (.arraylength, 1) := by decide +kernel
theorem dJ0_length_8abf5_5 : decode cJ0_length_8abf5 5 = .ok (.aload_n 0, 1) := by decide +kernel
theorem dJ0_length_8abf5_6 : decode cJ0_length_8abf5 6 = .ok (.invokevirtual 335, 3) := by decide +kernel
theorem dJ0_length_8abf5_9 : decode cJ0_length_8abf5 9 = .ok (.ishr, 1) := by decide +kernel
theorem dJ0_length_8abf5_10 : decode cJ0_length_8abf5 10 = .ok (.ireturn, 1) := by decide +kernel
theorem dJ0_charAt_5068e_0 : decode cJ0_charAt_5068e 0 = .ok (.aload_n 0, 1) := by decide +kernel
theorem dJ0_charAt_5068e_1 : decode cJ0_charAt_5068e 1 = .ok (.invokevirtual 492, 3) := by decide +kernel
theorem dJ0_charAt_5068e_4 : decode cJ0_charAt_5068e 4 = .ok (.ifCond .eq 12, 3) := by decide +kernel
theorem dJ0_charAt_5068e_7 : decode cJ0_charAt_5068e 7 = .ok (.aload_n 0, 1) := by decide +kernel
theorem dJ0_charAt_5068e_8 : decode cJ0_charAt_5068e 8 = .ok (.getfield 9, 3) := by decide +kernel
theorem dJ0_charAt_5068e_11 : decode cJ0_charAt_5068e 11 = .ok (.iload_n 1, 1) := by decide +kernel
theorem dJ0_charAt_5068e_12 : decode cJ0_charAt_5068e 12 = .ok (.invokestatic 495, 3) := by decide +kernel
theorem dJ0_charAt_5068e_15 : decode cJ0_charAt_5068e 15 = .ok (.ireturn, 1) := by decide +kernel
theorem dJ0_charAt_5068e_16 : decode cJ0_charAt_5068e 16 = .ok (.aload_n 0, 1) := by decide +kernel
theorem dJ0_charAt_5068e_17 : decode cJ0_charAt_5068e 17 = .ok (.getfield 9, 3) := by decide +kernel
theorem dJ0_charAt_5068e_20 : decode cJ0_charAt_5068e 20 = .ok (.iload_n 1, 1) := by decide +kernel
theorem dJ0_charAt_5068e_21 : decode cJ0_charAt_5068e 21 = .ok (.invokestatic 498, 3) := by decide +kernel
theorem dJ0_charAt_5068e_24 : decode cJ0_charAt_5068e 24 = .ok (.ireturn, 1) := by decide +kernel
theorem dJ0_coder_7d493_0 : decode cJ0_coder_7d493 0 = .ok (.getstatic 38, 3) := by decide +kernel
theorem dJ0_coder_7d493_3 : decode cJ0_coder_7d493 3 = .ok (.ifCond .eq 10, 3) := by decide +kernel
theorem dJ0_coder_7d493_6 : decode cJ0_coder_7d493 6 = .ok (.aload_n 0, 1) := by decide +kernel
theorem dJ0_coder_7d493_7 : decode cJ0_coder_7d493 7 = .ok (.getfield 15, 3) := by decide +kernel
theorem dJ0_coder_7d493_10 : decode cJ0_coder_7d493 10 = .ok (.goto 4, 3) := by decide +kernel
theorem dJ0_coder_7d493_13 : decode cJ0_coder_7d493 13 = .ok (.iconst 1, 1) := by decide +kernel
theorem dJ0_coder_7d493_14 : decode cJ0_coder_7d493 14 = .ok (.ireturn, 1) := by decide +kernel
theorem dJ0_isLatin1_aae02_0 : decode cJ0_isLatin1_aae02 0 = .ok (.getstatic 38, 3) := by decide +kernel
theorem dJ0_isLatin1_aae02_3 : decode cJ0_isLatin1_aae02 3 = .ok (.ifCond .eq 14, 3) := by decide +kernel
theorem dJ0_isLatin1_aae02_6 : decode cJ0_isLatin1_aae02 6 = .ok (.aload_n 0, 1) := by decide +kernel
theorem dJ0_isLatin1_aae02_7 : decode cJ0_isLatin1_aae02 7 = .ok (.getfield 15, 3) := by decide +kernel
theorem dJ0_isLatin1_aae02_10 : decode cJ0_isLatin1_aae02 10 = .ok (.ifCond .ne 7, 3) := by decide +kernel
theorem dJ0_isLatin1_aae02_13 : decode cJ0_isLatin1_aae02 13 = .ok (.iconst 1, 1) := by decide +kernel
theorem dJ0_isLatin1_aae02_14 : decode cJ0_isLatin1_aae02 14 = .ok (.goto 4, 3) := by decide +kernel
theorem dJ0_isLatin1_aae02_17 : decode cJ0_isLatin1_aae02 17 = .ok (.iconst 0, 1) := by decide +kernel
theorem dJ0_isLatin1_aae02_18 : decode cJ0_isLatin1_aae02 18 = .ok (.ireturn, 1) := by decide +kernel
theorem dJ0_checkIndex_df160_0 : decode cJ0_checkIndex_df160 0 = .ok (.iload_n 0, 1) := by decide +kernel
theorem dJ0_checkIndex_df160_1 : decode cJ0_checkIndex_df160 1 = .ok (.iload_n 1, 1) := by decide +kernel
theorem dJ0_checkIndex_df160_2 : decode cJ0_checkIndex_df160 2 = .ok (.getstatic 1053, 3) := by decide +kernel
theorem dJ0_checkIndex_df160_5 : decode cJ0_checkIndex_df160 5 = .ok (.invokestatic 1059, 3) := by decide +kernel
theorem dJ0_checkIndex_df160_8 : decode cJ0_checkIndex_df160 8 = .ok (.pop, 1) := by decide +kernel
theorem dJ0_checkIndex_df160_9 : decode cJ0_checkIndex_df160 9 = .ok (.return_, 1) := by decide +kernel
theorem dJ1_charAt_3b067_0 : decode cJ1_charAt_3b067 0 = .ok (.iload_n 1, 1) := by decide +kernel
theorem dJ1_charAt_3b067_1 : decode cJ1_charAt_3b067 1 = .ok (.aload_n 0, 1) := by decide +kernel
theorem dJ1_charAt_3b067_2 : decode cJ1_charAt_3b067 2 = .ok (.arraylength, 1) := by decide +kernel
theorem dJ1_charAt_3b067_3 : decode cJ1_charAt_3b067 3 = .ok (.invokestatic 9, 3) := by decide +kernel
theorem dJ1_charAt_3b067_6 : decode cJ1_charAt_3b067 6 = .ok (.aload_n 0, 1) := by decide +kernel
theorem dJ1_charAt_3b067_7 : decode cJ1_charAt_3b067 7 = .ok (.iload_n 1, 1) := by decide +kernel
theorem dJ1_charAt_3b067_8 : decode cJ1_charAt_3b067 8 = .ok (.baload, 1) := by decide +kernel
theorem dJ1_charAt_3b067_9 : decode cJ1_charAt_3b067 9 = .ok (.sipush 255, 3) := by decide +kernel
theorem dJ1_charAt_3b067_12 : decode cJ1_charAt_3b067 12 = .ok (.iand, 1) := by decide +kernel
theorem dJ1_charAt_3b067_13 : decode cJ1_charAt_3b067 13 = .ok (.i2c, 1) := by decide +kernel
theorem dJ1_charAt_3b067_14 : decode cJ1_charAt_3b067 14 = .ok (.ireturn, 1) := by decide +kernel
theorem dJ2_getChar_3b067_0 : decode cJ2_getChar_3b067 0 = .ok (.getstatic 44, 3) := by decide +kernel
theorem dJ2_getChar_3b067_3 : decode cJ2_getChar_3b067 3 = .ok (.ifCond .ne 25, 3) := by decide +kernel
theorem dJ2_getChar_3b067_6 : decode cJ2_getChar_3b067 6 = .ok (.iload_n 1, 1) := by decide +kernel
theorem dJ2_getChar_3b067_7 : decode cJ2_getChar_3b067 7 = .ok (.ifCond .lt 11, 3) := by decide +kernel
theorem dJ2_getChar_3b067_10 : decode cJ2_getChar_3b067 10 = .ok (.iload_n 1, 1) := by decide +kernel
theorem dJ2_getChar_3b067_11 : decode cJ2_getChar_3b067 11 = .ok (.aload_n 0, 1) := by decide +kernel
theorem dJ2_getChar_3b067_12 : decode cJ2_getChar_3b067 12 = .ok (.invokestatic 48, 3) := by decide +kernel
theorem dJ2_getChar_3b067_15 : decode cJ2_getChar_3b067 15 = .ok (.if_icmp .lt 13, 3) := by decide +kernel
theorem dJ2_getChar_3b067_18 : decode cJ2_getChar_3b067 18 = .ok (.new 52, 3) := by decide +kernel
theorem dJ2_getChar_3b067_21 : decode cJ2_getChar_3b067 21 = .ok (.dup, 1) := by decide +kernel
theorem dJ2_getChar_3b067_22 : decode cJ2_getChar_3b067 22 = .ok (.ldc 54, 2) := by decide +kernel
theorem dJ2_getChar_3b067_24 : decode cJ2_getChar_3b067 24 = .ok (.invokespecial 56, 3) := by decide +kernel
theorem dJ2_getChar_3b067_27 : decode cJ2_getChar_3b067 27 = .ok (.athrow, 1) := by decide +kernel
theorem dJ2_getChar_3b067_28 : decode cJ2_getChar_3b067 28 = .ok (.iload_n 1, 1) := by decide +kernel
theorem dJ2_getChar_3b067_29 : decode cJ2_getChar_3b067 29 = .ok (.iconst 1, 1) := by decide +kernel
theorem dJ2_getChar_3b067_30 : decode cJ2_getChar_3b067 30 = .ok (.ishl, 1) := by decide +kernel
theorem dJ2_getChar_3b067_31 : decode cJ2_getChar_3b067 31 = .ok (.istore_n 1, 1) := by decide +kernel
theorem dJ2_getChar_3b067_32 : decode cJ2_getChar_3b067 32 = .ok (.aload_n 0, 1) := by decide +kernel
theorem dJ2_getChar_3b067_33 : decode cJ2_getChar_3b067 33 = .ok (.iload_n 1, 1) := by decide +kernel
theorem dJ2_getChar_3b067_34 : decode cJ2_getChar_3b067 34 = .ok (.iinc 1 1, 3) := by decide +kernel
theorem dJ2_getChar_3b067_37 : decode cJ2_getChar_3b067 37 = .ok (.baload, 1) := by decide +kernel
theorem dJ2_getChar_3b067_38 : decode cJ2_getChar_3b067 38 = .ok (.sipush 255, 3) := by decide +kernel
theorem dJ2_getChar_3b067_41 : decode cJ2_getChar_3b067 41 = .ok (.iand, 1) := by decide +kernel
theorem dJ2_getChar_3b067_42 : decode cJ2_getChar_3b067 42 = .ok (.getstatic 59, 3) := by decide +kernel
theorem dJ2_getChar_3b067_45 : decode cJ2_getChar_3b067 45 = .ok (.ishl, 1) := by decide +kernel
theorem dJ2_getChar_3b067_46 : decode cJ2_getChar_3b067 46 = .ok (.aload_n 0, 1) := by decide +kernel
theorem dJ2_getChar_3b067_47 : decode cJ2_getChar_3b067 47 = .ok (.iload_n 1, 1) := by decide +kernel
theorem dJ2_getChar_3b067_48 : decode cJ2_getChar_3b067 48 = .ok (.baload, 1) := by decide +kernel
theorem dJ2_getChar_3b067_49 : decode cJ2_getChar_3b067 49 = .ok (.sipush 255, 3) := by decide +kernel
theorem dJ2_getChar_3b067_52 : decode cJ2_getChar_3b067 52 = .ok (.iand, 1) := by decide +kernel
theorem dJ2_getChar_3b067_53 : decode cJ2_getChar_3b067 53 = .ok (.getstatic 63, 3) := by decide +kernel
theorem dJ2_getChar_3b067_56 : decode cJ2_getChar_3b067 56 = .ok (.ishl, 1) := by decide +kernel
theorem dJ2_getChar_3b067_57 : decode cJ2_getChar_3b067 57 = .ok (.ior, 1) := by decide +kernel
theorem dJ2_getChar_3b067_58 : decode cJ2_getChar_3b067 58 = .ok (.i2c, 1) := by decide +kernel
theorem dJ2_getChar_3b067_59 : decode cJ2_getChar_3b067 59 = .ok (.ireturn, 1) := by decide +kernel
theorem dJ2_length_9d52b_0 : decode cJ2_length_9d52b 0 = .ok (.aload_n 0, 1) := by decide +kernel
theorem dJ2_length_9d52b_1 : decode cJ2_length_9d52b 1 = .ok (.arraylength, 1) := by decide +kernel
theorem dJ2_length_9d52b_2 : decode cJ2_length_9d52b 2 = .ok (.iconst 1, 1) := by decide +kernel
theorem dJ2_length_9d52b_3 : decode cJ2_length_9d52b 3 = .ok (.ishr, 1) := by decide +kernel
theorem dJ2_length_9d52b_4 : decode cJ2_length_9d52b 4 = .ok (.ireturn, 1) := by decide +kernel
theorem dJ2_charAt_3b067_0 : decode cJ2_charAt_3b067 0 = .ok (.iload_n 1, 1) := by decide +kernel
theorem dJ2_charAt_3b067_1 : decode cJ2_charAt_3b067 1 = .ok (.aload_n 0, 1) := by decide +kernel
theorem dJ2_charAt_3b067_2 : decode cJ2_charAt_3b067 2 = .ok (.invokestatic 67, 3) := by decide +kernel
theorem dJ2_charAt_3b067_5 : decode cJ2_charAt_3b067 5 = .ok (.aload_n 0, 1) := by decide +kernel
theorem dJ2_charAt_3b067_6 : decode cJ2_charAt_3b067 6 = .ok (.iload_n 1, 1) := by decide +kernel
theorem dJ2_charAt_3b067_7 : decode cJ2_charAt_3b067 7 = .ok (.invokestatic 71, 3) := by decide +kernel
theorem dJ2_charAt_3b067_10 : decode cJ2_charAt_3b067 10 = .ok (.ireturn, 1) := by decide +kernel
theorem dJ2_checkIndex_2214a_0 : decode cJ2_checkIndex_2214a 0 = .ok (.iload_n 0, 1) := by decide +kernel
theorem dJ2_checkIndex_2214a_1 : decode cJ2_checkIndex_2214a 1 = .ok (.aload_n 1, 1) := by decide +kernel
theorem dJ2_checkIndex_2214a_2 : decode cJ2_checkIndex_2214a 2 = .ok (.invokestatic 48, 3) := by decide +kernel
theorem dJ2_checkIndex_2214a_5 : decode cJ2_checkIndex_2214a 5 = .ok (.invokestatic 414, 3) := by decide +kernel
theorem dJ2_checkIndex_2214a_8 : decode cJ2_checkIndex_2214a 8 = .ok (.return_, 1) := by decide +kernel
theorem dJ3_checkIndex_8e157_0 : decode cJ3_checkIndex_8e157 0 = .ok (.iload_n 0, 1) := by decide +kernel
theorem dJ3_checkIndex_8e157_1 : decode cJ3_checkIndex_8e157 1 = .ok (.ifCond .lt 8, 3) := by decide +kernel
theorem dJ3_checkIndex_8e157_4 : decode cJ3_checkIndex_8e157 4 = .ok (.iload_n 0, 1) := by decide +kernel
theorem dJ3_checkIndex_8e157_5 : decode cJ3_checkIndex_8e157 5 = .ok (.iload_n 1, 1) := by decide +kernel
theorem dJ3_checkIndex_8e157_6 : decode cJ3_checkIndex_8e157 6 = .ok (.if_icmp .lt 10, 3) := by decide +kernel
theorem dJ3_checkIndex_8e157_9 : decode cJ3_checkIndex_8e157 9 = .ok (.aload_n 2, 1) := by decide +kernel
theorem dJ3_checkIndex_8e157_10 : decode cJ3_checkIndex_8e157 10 = .ok (.iload_n 0, 1) := by decide +kernel
theorem dJ3_checkIndex_8e157_11 : decode cJ3_checkIndex_8e157 11 = .ok (.iload_n 1, 1) := by decide +kernel
theorem dJ3_checkIndex_8e157_12 : decode cJ3_checkIndex_8e157 12 = .ok (.invokestatic 95, 3) := by decide +kernel
theorem dJ3_checkIndex_8e157_15 : decode cJ3_checkIndex_8e157 15 = .ok (.athrow, 1) := by decide +kernel
theorem dJ3_checkIndex_8e157_16 : decode cJ3_checkIndex_8e157 16 = .ok (.iload_n 0, 1) := by decide +kernel
theorem dJ3_checkIndex_8e157_17 : decode cJ3_checkIndex_8e157 17 = .ok (.ireturn, 1) := by decide +kernel
theorem dJ6_bitCount_0f7a4_0 : decode cJ6_bitCount_0f7a4 0 = .ok (.iload_n 0, 1) := by decide +kernel
theorem dJ6_bitCount_0f7a4_1 : decode cJ6_bitCount_0f7a4 1 = .ok (.iload_n 0, 1) := by decide +kernel
theorem dJ6_bitCount_0f7a4_2 : decode cJ6_bitCount_0f7a4 2 = .ok (.iconst 1, 1) := by decide +kernel
theorem dJ6_bitCount_0f7a4_3 : decode cJ6_bitCount_0f7a4 3 = .ok (.iushr, 1) := by decide +kernel
theorem dJ6_bitCount_0f7a4_4 : decode cJ6_bitCount_0f7a4 4 = .ok (.ldc_w 265, 3) := by decide +kernel
theorem dJ6_bitCount_0f7a4_7 : decode cJ6_bitCount_0f7a4 7 = .ok (.iand, 1) := by decide +kernel
theorem dJ6_bitCount_0f7a4_8 : decode cJ6_bitCount_0f7a4 8 = .ok (.isub, 1) := by decide +kernel
theorem dJ6_bitCount_0f7a4_9 : decode cJ6_bitCount_0f7a4 9 = .ok (.istore_n 0, 1) := by decide +kernel
theorem dJ6_bitCount_0f7a4_10 : decode cJ6_bitCount_0f7a4 10 = .ok (.iload_n 0, 1) := by decide +kernel
theorem dJ6_bitCount_0f7a4_11 : decode cJ6_bitCount_0f7a4 11 = .ok (.ldc_w 266, 3) := by decide +kernel
theorem dJ6_bitCount_0f7a4_14 : decode cJ6_bitCount_0f7a4 14 = .ok (.iand, 1) := by decide +kernel
theorem dJ6_bitCount_0f7a4_15 : decode cJ6_bitCount_0f7a4 15 = .ok (.iload_n 0, 1) := by decide +kernel
theorem dJ6_bitCount_0f7a4_16 : decode cJ6_bitCount_0f7a4 16 = .ok (.iconst 2, 1) := by decide +kernel
theorem dJ6_bitCount_0f7a4_17 : decode cJ6_bitCount_0f7a4 17 = .ok (.iushr, 1) := by decide +kernel
theorem dJ6_bitCount_0f7a4_18 : decode cJ6_bitCount_0f7a4 18 = .ok (.ldc_w 266, 3) := by decide +kernel
theorem dJ6_bitCount_0f7a4_21 : decode cJ6_bitCount_0f7a4 21 = .ok (.iand, 1) := by decide +kernel
theorem dJ6_bitCount_0f7a4_22 : decode cJ6_bitCount_0f7a4 22 = .ok (.iadd, 1) := by decide +kernel
theorem dJ6_bitCount_0f7a4_23 : decode cJ6_bitCount_0f7a4 23 = .ok (.istore_n 0, 1) := by decide +kernel
theorem dJ6_bitCount_0f7a4_24 : decode cJ6_bitCount_0f7a4 24 = .ok (.iload_n 0, 1) := by decide +kernel
theorem dJ6_bitCount_0f7a4_25 : decode cJ6_bitCount_0f7a4 25 = .ok (.iload_n 0, 1) := by decide +kernel
theorem dJ6_bitCount_0f7a4_26 : decode cJ6_bitCount_0f7a4 26 = .ok (.iconst 4, 1) := by decide +kernel
theorem dJ6_bitCount_0f7a4_27 : decode cJ6_bitCount_0f7a4 27 = .ok (.iushr, 1) := by decide +kernel
theorem dJ6_bitCount_0f7a4_28 : decode cJ6_bitCount_0f7a4 28 = .ok (.iadd, 1) := by decide +kernel
theorem dJ6_bitCount_0f7a4_29 : decode cJ6_bitCount_0f7a4 29 = .ok (.ldc_w 267, 3) := by decide +kernel
theorem dJ6_bitCount_0f7a4_32 : decode cJ6_bitCount_0f7a4 32 = .ok (.iand, 1) := by decide +kernel
theorem dJ6_bitCount_0f7a4_33 : decode cJ6_bitCount_0f7a4 33 = .ok (.istore_n 0, 1) := by decide +kernel
theorem dJ6_bitCount_0f7a4_34 : decode cJ6_bitCount_0f7a4 34 = .ok (.iload_n 0, 1) := by decide +kernel
theorem dJ6_bitCount_0f7a4_35 : decode cJ6_bitCount_0f7a4 35 = .ok (.iload_n 0, 1) := by decide +kernel
theorem dJ6_bitCount_0f7a4_36 : decode cJ6_bitCount_0f7a4 36 = .ok (.bipush 8, 2) := by decide +kernel
theorem dJ6_bitCount_0f7a4_38 : decode cJ6_bitCount_0f7a4 38 = .ok (.iushr, 1) := by decide +kernel
theorem dJ6_bitCount_0f7a4_39 : decode cJ6_bitCount_0f7a4 39 = .ok (.iadd, 1) := by decide +kernel
theorem dJ6_bitCount_0f7a4_40 : decode cJ6_bitCount_0f7a4 40 = .ok (.istore_n 0, 1) := by decide +kernel
theorem dJ6_bitCount_0f7a4_41 : decode cJ6_bitCount_0f7a4 41 = .ok (.iload_n 0, 1) := by decide +kernel
theorem dJ6_bitCount_0f7a4_42 : decode cJ6_bitCount_0f7a4 42 = .ok (.iload_n 0, 1) := by decide +kernel
theorem dJ6_bitCount_0f7a4_43 : decode cJ6_bitCount_0f7a4 43 = .ok (.bipush 16, 2) := by decide +kernel
theorem dJ6_bitCount_0f7a4_45 : decode cJ6_bitCount_0f7a4 45 = .ok (.iushr, 1) := by decide +kernel
theorem dJ6_bitCount_0f7a4_46 : decode cJ6_bitCount_0f7a4 46 = .ok (.iadd, 1) := by decide +kernel
theorem dJ6_bitCount_0f7a4_47 : decode cJ6_bitCount_0f7a4 47 = .ok (.istore_n 0, 1) := by decide +kernel
theorem dJ6_bitCount_0f7a4_48 : decode cJ6_bitCount_0f7a4 48 = .ok (.iload_n 0, 1) := by decide +kernel
theorem dJ6_bitCount_0f7a4_49 : decode cJ6_bitCount_0f7a4 49 = .ok (.bipush 63, 2) := by decide +kernel
theorem dJ6_bitCount_0f7a4_51 : decode cJ6_bitCount_0f7a4 51 = .ok (.iand, 1) := by decide +kernel
theorem dJ6_bitCount_0f7a4_52 : decode cJ6_bitCount_0f7a4 52 = .ok (.ireturn, 1) := by decide +kernel
theorem dJ9_max_7cf53_0 : decode cJ9_max_7cf53 0 = .ok (.iload_n 0, 1) := by decide +kernel
theorem dJ9_max_7cf53_1 : decode cJ9_max_7cf53 1 = .ok (.iload_n 1, 1) := by decide +kernel
theorem dJ9_max_7cf53_2 : decode cJ9_max_7cf53 2 = .ok (.if_icmp .lt 7, 3) := by decide +kernel
theorem dJ9_max_7cf53_5 : decode cJ9_max_7cf53 5 = .ok (.iload_n 0, 1) := by decide +kernel
theorem dJ9_max_7cf53_6 : decode cJ9_max_7cf53 6 = .ok (.goto 4, 3) := by decide +kernel
theorem dJ9_max_7cf53_9 : decode cJ9_max_7cf53 9 = .ok (.iload_n 1, 1) := by decide +kernel
theorem dJ9_max_7cf53_10 : decode cJ9_max_7cf53 10 = .ok (.ireturn, 1) := by decide +kernel
theorem dJ9_min_7cf53_0 : decode cJ9_min_7cf53 0 = .ok (.iload_n 0, 1) := by decide +kernel
theorem dJ9_min_7cf53_1 : decode cJ9_min_7cf53 1 = .ok (.iload_n 1, 1) := by decide +kernel
theorem dJ9_min_7cf53_2 : decode cJ9_min_7cf53 2 = .ok (.if_icmp .gt 7, 3) := by decide +kernel
theorem dJ9_min_7cf53_5 : decode cJ9_min_7cf53 5 = .ok (.iload_n 0, 1) := by decide +kernel
theorem dJ9_min_7cf53_6 : decode cJ9_min_7cf53 6 = .ok (.goto 4, 3) := by decide +kernel
theorem dJ9_min_7cf53_9 : decode cJ9_min_7cf53 9 = .ok (.iload_n 1, 1) := by decide +kernel
theorem dJ9_min_7cf53_10 : decode cJ9_min_7cf53 10 = .ok (.ireturn, 1) := by decide +kernel
theorem dL_law_0 : decode cL_law 0 = .ok (.new 7, 3) := by decide +kernel
theorem dL_law_3 : decode cL_law 3 = .ok (.dup, 1) := by decide +kernel
theorem dL_law_4 : decode cL_law 4 = .ok (.invokespecial 9, 3) := by decide +kernel
theorem dL_law_7 : decode cL_law 7 = .ok (.astore_n 1, 1) := by decide +kernel
theorem dL_law_8 : decode cL_law 8 = .ok (.new 10, 3) := by decide +kernel
theorem dL_law_11 : decode cL_law 11 = .ok (.dup, 1) := by decide +kernel
theorem dL_law_12 : decode cL_law 12 = .ok (.invokespecial 12, 3) := by decide +kernel
theorem dL_law_15 : decode cL_law 15 = .ok (.astore_n 2, 1) := by decide +kernel
theorem dL_law_16 : decode cL_law 16 = .ok (.iconst 0, 1) := by decide +kernel
theorem dL_law_17 : decode cL_law 17 = .ok (.istore_n 3, 1) := by decide +kernel
theorem dL_law_18 : decode cL_law 18 = .ok (.iload_n 3, 1) := by decide +kernel
theorem dL_law_19 : decode cL_law 19 = .ok (.aload_n 0, 1) := by decide +kernel
theorem dL_law_20 : decode cL_law 20 = .ok (.arraylength, 1) := by decide +kernel
theorem dL_law_21 : decode cL_law 21 = .ok (.iconst 4, 1) := by decide +kernel
theorem dL_law_22 : decode cL_law 22 = .ok (.isub, 1) := by decide +kernel
theorem dL_law_23 : decode cL_law 23 = .ok (.if_icmp .gt 947, 3) := by decide +kernel
theorem dL_law_26 : decode cL_law 26 = .ok (.aload_n 0, 1) := by decide +kernel
theorem dL_law_27 : decode cL_law 27 = .ok (.iload_n 3, 1) := by decide +kernel
theorem dL_law_28 : decode cL_law 28 = .ok (.iaload, 1) := by decide +kernel
theorem dL_law_29 : decode cL_law 29 = .ok (.bipush 31, 2) := by decide +kernel
theorem dL_law_31 : decode cL_law 31 = .ok (.iand, 1) := by decide +kernel
theorem dL_law_32 : decode cL_law 32 = .ok (.tableswitch 932 0 27 #[128, 191, 204, 217, 240, 283, 316, 349, 372, 415, 438, 471, 504, 527, 550, 593, 636, 669, 702, 715, 748, 791, 804, 827, 850, 863, 886, 909], 128) := by decide +kernel
theorem dL_law_160 : decode cL_law 160 = .ok (.aload_n 1, 1) := by decide +kernel
theorem dL_law_161 : decode cL_law 161 = .ok (.aload_n 0, 1) := by decide +kernel
theorem dL_law_162 : decode cL_law 162 = .ok (.iload_n 3, 1) := by decide +kernel
theorem dL_law_163 : decode cL_law 163 = .ok (.iconst 1, 1) := by decide +kernel
theorem dL_law_164 : decode cL_law 164 = .ok (.iadd, 1) := by decide +kernel
theorem dL_law_165 : decode cL_law 165 = .ok (.iaload, 1) := by decide +kernel
theorem dL_law_166 : decode cL_law 166 = .ok (.aload_n 0, 1) := by decide +kernel
theorem dL_law_167 : decode cL_law 167 = .ok (.iload_n 3, 1) := by decide +kernel
theorem dL_law_168 : decode cL_law 168 = .ok (.iconst 2, 1) := by decide +kernel
theorem dL_law_169 : decode cL_law 169 = .ok (.iadd, 1) := by decide +kernel
theorem dL_law_170 : decode cL_law 170 = .ok (.iaload, 1) := by decide +kernel
theorem dL_law_171 : decode cL_law 171 = .ok (.i2l, 1) := by decide +kernel
theorem dL_law_172 : decode cL_law 172 = .ok (.bipush 32, 2) := by decide +kernel
theorem dL_law_174 : decode cL_law 174 = .ok (.lshl, 1) := by decide +kernel
theorem dL_law_175 : decode cL_law 175 = .ok (.aload_n 0, 1) := by decide +kernel
theorem dL_law_176 : decode cL_law 176 = .ok (.iload_n 3, 1) := by decide +kernel
theorem dL_law_177 : decode cL_law 177 = .ok (.iconst 3, 1) := by decide +kernel
theorem dL_law_178 : decode cL_law 178 = .ok (.iadd, 1) := by decide +kernel
theorem dL_law_179 : decode cL_law 179 = .ok (.iaload, 1) := by decide +kernel
theorem dL_law_180 : decode cL_law 180 = .ok (.i2l, 1) := by decide +kernel
theorem dL_law_181 : decode cL_law 181 = .ok (.ldc2_w 13, 3) := by decide +kernel
theorem dL_law_184 : decode cL_law 184 = .ok (.land, 1) := by decide +kernel
theorem dL_law_185 : decode cL_law 185 = .ok (.lor, 1) := by decide +kernel
theorem dL_law_186 : decode cL_law 186 = .ok (.invokevirtual 15, 3) := by decide +kernel
theorem dL_law_189 : decode cL_law 189 = .ok (.aload_n 2, 1) := by decide +kernel
theorem dL_law_190 : decode cL_law 190 = .ok (.aload_n 0, 1) := by decide +kernel
theorem dL_law_191 : decode cL_law 191 = .ok (.iload_n 3, 1) := by decide +kernel
theorem dL_law_192 : decode cL_law 192 = .ok (.iconst 1, 1) := by decide +kernel
theorem dL_law_193 : decode cL_law 193 = .ok (.iadd, 1) := by decide +kernel
theorem dL_law_194 : decode cL_law 194 = .ok (.iaload, 1) := by decide +kernel
theorem dL_law_195 : decode cL_law 195 = .ok (.aload_n 0, 1) := by decide +kernel
theorem dL_law_196 : decode cL_law 196 = .ok (.iload_n 3, 1) := by decide +kernel
theorem dL_law_197 : decode cL_law 197 = .ok (.iconst 2, 1) := by decide +kernel
theorem dL_law_198 : decode cL_law 198 = .ok (.iadd, 1) := by decide +kernel
theorem dL_law_199 : decode cL_law 199 = .ok (.iaload, 1) := by decide +kernel
theorem dL_law_200 : decode cL_law 200 = .ok (.i2l, 1) := by decide +kernel
theorem dL_law_201 : decode cL_law 201 = .ok (.bipush 32, 2) := by decide +kernel
theorem dL_law_203 : decode cL_law 203 = .ok (.lshl, 1) := by decide +kernel
theorem dL_law_204 : decode cL_law 204 = .ok (.aload_n 0, 1) := by decide +kernel
theorem dL_law_205 : decode cL_law 205 = .ok (.iload_n 3, 1) := by decide +kernel
theorem dL_law_206 : decode cL_law 206 = .ok (.iconst 3, 1) := by decide +kernel
theorem dL_law_207 : decode cL_law 207 = .ok (.iadd, 1) := by decide +kernel
theorem dL_law_208 : decode cL_law 208 = .ok (.iaload, 1) := by decide +kernel
theorem dL_law_209 : decode cL_law 209 = .ok (.i2l, 1) := by decide +kernel
theorem dL_law_210 : decode cL_law 210 = .ok (.ldc2_w 13, 3) := by decide +kernel
theorem dL_law_213 : decode cL_law 213 = .ok (.land, 1) := by decide +kernel
theorem dL_law_214 : decode cL_law 214 = .ok (.lor, 1) := by decide +kernel
theorem dL_law_215 : decode cL_law 215 = .ok (.invokevirtual 19, 3) := by decide +kernel
theorem dL_law_218 : decode cL_law 218 = .ok (.if_icmp .eq 746, 3) := by decide +kernel
theorem dL_law_221 : decode cL_law 221 = .ok (.iconst 0, 1) := by decide +kernel
theorem dL_law_222 : decode cL_law 222 = .ok (.ireturn, 1) := by decide +kernel
theorem dL_law_223 : decode cL_law 223 = .ok (.aload_n 1, 1) := by decide +kernel
theorem dL_law_224 : decode cL_law 224 = .ok (.invokevirtual 20, 3) := by decide +kernel
theorem dL_law_227 : decode cL_law 227 = .ok (.aload_n 2, 1) := by decide +kernel
theorem dL_law_228 : decode cL_law 228 = .ok (.invokevirtual 24, 3) := by decide +kernel
theorem dL_law_231 : decode cL_law 231 = .ok (.if_icmp .eq 733, 3) := by decide +kernel
theorem dL_law_234 : decode cL_law 234 = .ok (.iconst 0, 1) := by decide +kernel
theorem dL_law_235 : decode cL_law 235 = .ok (.ireturn, 1) := by decide +kernel
theorem dL_law_236 : decode cL_law 236 = .ok (.aload_n 1, 1) := by decide +kernel
theorem dL_law_237 : decode cL_law 237 = .ok (.invokevirtual 25, 3) := by decide +kernel
theorem dL_law_240 : decode cL_law 240 = .ok (.aload_n 2, 1) := by decide +kernel
theorem dL_law_241 : decode cL_law 241 = .ok (.invokevirtual 28, 3) := by decide +kernel
theorem dL_law_244 : decode cL_law 244 = .ok (.if_icmp .eq 720, 3) := by decide +kernel
theorem dL_law_247 : decode cL_law 247 = .ok (.iconst 0, 1) := by decide +kernel
theorem dL_law_248 : decode cL_law 248 = .ok (.ireturn, 1) := by decide +kernel
theorem dL_law_249 : decode cL_law 249 = .ok (.aload_n 1, 1) := by decide +kernel
theorem dL_law_250 : decode cL_law 250 = .ok (.aload_n 0, 1) := by decide +kernel
theorem dL_law_251 : decode cL_law 251 = .ok (.iload_n 3, 1) := by decide +kernel
theorem dL_law_252 : decode cL_law 252 = .ok (.iconst 1, 1) := by decide +kernel
theorem dL_law_253 : decode cL_law 253 = .ok (.iadd, 1) := by decide +kernel
theorem dL_law_254 : decode cL_law 254 = .ok (.iaload, 1) := by decide +kernel
theorem dL_law_255 : decode cL_law 255 = .ok (.invokevirtual 29, 3) := by decide +kernel
theorem dL_law_258 : decode cL_law 258 = .ok (.aload_n 2, 1) := by decide +kernel
theorem dL_law_259 : decode cL_law 259 = .ok (.aload_n 0, 1) := by decide +kernel
theorem dL_law_260 : decode cL_law 260 = .ok (.iload_n 3, 1) := by decide +kernel
theorem dL_law_261 : decode cL_law 261 = .ok (.iconst 1, 1) := by decide +kernel
theorem dL_law_262 : decode cL_law 262 = .ok (.iadd, 1) := by decide +kernel
theorem dL_law_263 : decode cL_law 263 = .ok (.iaload, 1) := by decide +kernel
theorem dL_law_264 : decode cL_law 264 = .ok (.invokevirtual 33, 3) := by decide +kernel
theorem dL_law_267 : decode cL_law 267 = .ok (.if_icmp .eq 697, 3) := by decide +kernel
theorem dL_law_270 : decode cL_law 270 = .ok (.iconst 0, 1) := by decide +kernel
theorem dL_law_271 : decode cL_law 271 = .ok (.ireturn, 1) := by decide +kernel
theorem dL_law_272 : decode cL_law 272 = .ok (.aload_n 1, 1) := by decide +kernel
theorem dL_law_273 : decode cL_law 273 = .ok (.aload_n 0, 1) := by decide +kernel
theorem dL_law_274 : decode cL_law 274 = .ok (.iload_n 3, 1) := by decide +kernel
theorem dL_law_275 : decode cL_law 275 = .ok (.iconst 1, 1) := by decide +kernel
theorem dL_law_276 : decode cL_law 276 = .ok (.iadd, 1) := by decide +kernel
theorem dL_law_277 : decode cL_law 277 = .ok (.iaload, 1) := by decide +kernel
theorem dL_law_278 : decode cL_law 278 = .ok (.aload_n 0, 1) := by decide +kernel
theorem dL_law_279 : decode cL_law 279 = .ok (.iload_n 3, 1) := by decide +kernel
theorem dL_law_280 : decode cL_law 280 = .ok (.iconst 2, 1) := by decide +kernel
theorem dL_law_281 : decode cL_law 281 = .ok (.iadd, 1) := by decide +kernel
theorem dL_law_282 : decode cL_law 282 = .ok (.iaload, 1) := by decide +kernel
theorem dL_law_283 : decode cL_law 283 = .ok (.aload_n 0, 1) := by decide +kernel
theorem dL_law_284 : decode cL_law 284 = .ok (.iload_n 3, 1) := by decide +kernel
theorem dL_law_285 : decode cL_law 285 = .ok (.iconst 3, 1) := by decide +kernel
theorem dL_law_286 : decode cL_law 286 = .ok (.iadd, 1) := by decide +kernel
theorem dL_law_287 : decode cL_law 287 = .ok (.iaload, 1) := by decide +kernel
theorem dL_law_288 : decode cL_law 288 = .ok (.invokevirtual 34, 3) := by decide +kernel
theorem dL_law_291 : decode cL_law 291 = .ok (.aload_n 2, 1) := by decide +kernel
theorem dL_law_292 : decode cL_law 292 = .ok (.aload_n 0, 1) := by decide +kernel
theorem dL_law_293 : decode cL_law 293 = .ok (.iload_n 3, 1) := by decide +kernel
theorem dL_law_294 : decode cL_law 294 = .ok (.iconst 1, 1) := by decide +kernel
theorem dL_law_295 : decode cL_law 295 = .ok (.iadd, 1) := by decide +kernel
theorem dL_law_296 : decode cL_law 296 = .ok (.iaload, 1) := by decide +kernel
theorem dL_law_297 : decode cL_law 297 = .ok (.aload_n 0, 1) := by decide +kernel
theorem dL_law_298 : decode cL_law 298 = .ok (.iload_n 3, 1) := by decide +kernel
theorem dL_law_299 : decode cL_law 299 = .ok (.iconst 2, 1) := by decide +kernel
theorem dL_law_300 : decode cL_law 300 = .ok (.iadd, 1) := by decide +kernel
theorem dL_law_301 : decode cL_law 301 = .ok (.iaload, 1) := by decide +kernel
theorem dL_law_302 : decode cL_law 302 = .ok (.aload_n 0, 1) := by decide +kernel
theorem dL_law_303 : decode cL_law 303 = .ok (.iload_n 3, 1) := by decide +kernel
theorem dL_law_304 : decode cL_law 304 = .ok (.iconst 3, 1) := by decide +kernel
theorem dL_law_305 : decode cL_law 305 = .ok (.iadd, 1) := by decide +kernel
theorem dL_law_306 : decode cL_law 306 = .ok (.iaload, 1) := by decide +kernel
theorem dL_law_307 : decode cL_law 307 = .ok (.invokevirtual 38, 3) := by decide +kernel
theorem dL_law_310 : decode cL_law 310 = .ok (.if_icmp .eq 654, 3) := by decide +kernel
theorem dL_law_313 : decode cL_law 313 = .ok (.iconst 0, 1) := by decide +kernel
theorem dL_law_314 : decode cL_law 314 = .ok (.ireturn, 1) := by decide +kernel
theorem dL_law_315 : decode cL_law 315 = .ok (.aload_n 1, 1) := by decide +kernel
theorem dL_law_316 : decode cL_law 316 = .ok (.aload_n 0, 1) := by decide +kernel
theorem dL_law_317 : decode cL_law 317 = .ok (.iload_n 3, 1) := by decide +kernel
theorem dL_law_318 : decode cL_law 318 = .ok (.iconst 1, 1) := by decide +kernel
theorem dL_law_319 : decode cL_law 319 = .ok (.iadd, 1) := by decide +kernel
theorem dL_law_320 : decode cL_law 320 = .ok (.iaload, 1) := by decide +kernel
theorem dL_law_321 : decode cL_law 321 = .ok (.aload_n 0, 1) := by decide +kernel
theorem dL_law_322 : decode cL_law 322 = .ok (.iload_n 3, 1) := by decide +kernel
theorem dL_law_323 : decode cL_law 323 = .ok (.iconst 2, 1) := by decide +kernel
theorem dL_law_324 : decode cL_law 324 = .ok (.iadd, 1) := by decide +kernel
theorem dL_law_325 : decode cL_law 325 = .ok (.iaload, 1) := by decide +kernel
theorem dL_law_326 : decode cL_law 326 = .ok (.invokevirtual 39, 3) := by decide +kernel
theorem dL_law_329 : decode cL_law 329 = .ok (.aload_n 2, 1) := by decide +kernel
theorem dL_law_330 : decode cL_law 330 = .ok (.aload_n 0, 1) := by decide +kernel
theorem dL_law_331 : decode cL_law 331 = .ok (.iload_n 3, 1) := by decide +kernel
theorem dL_law_332 : decode cL_law 332 = .ok (.iconst 1, 1) := by decide +kernel
theorem dL_law_333 : decode cL_law 333 = .ok (.iadd, 1) := by decide +kernel
theorem dL_law_334 : decode cL_law 334 = .ok (.iaload, 1) := by decide +kernel
theorem dL_law_335 : decode cL_law 335 = .ok (.aload_n 0, 1) := by decide +kernel
theorem dL_law_336 : decode cL_law 336 = .ok (.iload_n 3, 1) := by decide +kernel
theorem dL_law_337 : decode cL_law 337 = .ok (.iconst 2, 1) := by decide +kernel
theorem dL_law_338 : decode cL_law 338 = .ok (.iadd, 1) := by decide +kernel
theorem dL_law_339 : decode cL_law 339 = .ok (.iaload, 1) := by decide +kernel
theorem dL_law_340 : decode cL_law 340 = .ok (.invokevirtual 43, 3) := by decide +kernel
theorem dL_law_343 : decode cL_law 343 = .ok (.if_icmp .eq 621, 3) := by decide +kernel
theorem dL_law_346 : decode cL_law 346 = .ok (.iconst 0, 1) := by decide +kernel
theorem dL_law_347 : decode cL_law 347 = .ok (.ireturn, 1) := by decide +kernel
theorem dL_law_348 : decode cL_law 348 = .ok (.aload_n 1, 1) := by decide +kernel
theorem dL_law_349 : decode cL_law 349 = .ok (.aload_n 0, 1) := by decide +kernel
theorem dL_law_350 : decode cL_law 350 = .ok (.iload_n 3, 1) := by decide +kernel
theorem dL_law_351 : decode cL_law 351 = .ok (.iconst 1, 1) := by decide +kernel
theorem dL_law_352 : decode cL_law 352 = .ok (.iadd, 1) := by decide +kernel
theorem dL_law_353 : decode cL_law 353 = .ok (.iaload, 1) := by decide +kernel
theorem dL_law_354 : decode cL_law 354 = .ok (.aload_n 0, 1) := by decide +kernel
theorem dL_law_355 : decode cL_law 355 = .ok (.iload_n 3, 1) := by decide +kernel
theorem dL_law_356 : decode cL_law 356 = .ok (.iconst 2, 1) := by decide +kernel
theorem dL_law_357 : decode cL_law 357 = .ok (.iadd, 1) := by decide +kernel
theorem dL_law_358 : decode cL_law 358 = .ok (.iaload, 1) := by decide +kernel
theorem dL_law_359 : decode cL_law 359 = .ok (.invokevirtual 44, 3) := by decide +kernel
theorem dL_law_362 : decode cL_law 362 = .ok (.aload_n 2, 1) := by decide +kernel
theorem dL_law_363 : decode cL_law 363 = .ok (.aload_n 0, 1) := by decide +kernel
theorem dL_law_364 : decode cL_law 364 = .ok (.iload_n 3, 1) := by decide +kernel
theorem dL_law_365 : decode cL_law 365 = .ok (.iconst 1, 1) := by decide +kernel
theorem dL_law_366 : decode cL_law 366 = .ok (.iadd, 1) := by decide +kernel
theorem dL_law_367 : decode cL_law 367 = .ok (.iaload, 1) := by decide +kernel
theorem dL_law_368 : decode cL_law 368 = .ok (.aload_n 0, 1) := by decide +kernel
theorem dL_law_369 : decode cL_law 369 = .ok (.iload_n 3, 1) := by decide +kernel
theorem dL_law_370 : decode cL_law 370 = .ok (.iconst 2, 1) := by decide +kernel
theorem dL_law_371 : decode cL_law 371 = .ok (.iadd, 1) := by decide +kernel
theorem dL_law_372 : decode cL_law 372 = .ok (.iaload, 1) := by decide +kernel
theorem dL_law_373 : decode cL_law 373 = .ok (.invokevirtual 47, 3) := by decide +kernel
theorem dL_law_376 : decode cL_law 376 = .ok (.if_icmp .eq 588, 3) := by decide +kernel
theorem dL_law_379 : decode cL_law 379 = .ok (.iconst 0, 1) := by decide +kernel
theorem dL_law_380 : decode cL_law 380 = .ok (.ireturn, 1) := by decide +kernel
theorem dL_law_381 : decode cL_law 381 = .ok (.aload_n 1, 1) := by decide +kernel
theorem dL_law_382 : decode cL_law 382 = .ok (.aload_n 0, 1) := by decide +kernel
theorem dL_law_383 : decode cL_law 383 = .ok (.iload_n 3, 1) := by decide +kernel
theorem dL_law_384 : decode cL_law 384 = .ok (.iconst 1, 1) := by decide +kernel
theorem dL_law_385 : decode cL_law 385 = .ok (.iadd, 1) := by decide +kernel
theorem dL_law_386 : decode cL_law 386 = .ok (.iaload, 1) := by decide +kernel
theorem dL_law_387 : decode cL_law 387 = .ok (.invokevirtual 48, 3) := by decide +kernel
theorem dL_law_390 : decode cL_law 390 = .ok (.aload_n 2, 1) := by decide +kernel
theorem dL_law_391 : decode cL_law 391 = .ok (.aload_n 0, 1) := by decide +kernel
theorem dL_law_392 : decode cL_law 392 = .ok (.iload_n 3, 1) := by decide +kernel
theorem dL_law_393 : decode cL_law 393 = .ok (.iconst 1, 1) := by decide +kernel
theorem dL_law_394 : decode cL_law 394 = .ok (.iadd, 1) := by decide +kernel
theorem dL_law_395 : decode cL_law 395 = .ok (.iaload, 1) := by decide +kernel
theorem dL_law_396 : decode cL_law 396 = .ok (.invokevirtual 51, 3) := by decide +kernel
theorem dL_law_399 : decode cL_law 399 = .ok (.if_icmp .eq 565, 3) := by decide +kernel
theorem dL_law_402 : decode cL_law 402 = .ok (.iconst 0, 1) := by decide +kernel
theorem dL_law_403 : decode cL_law 403 = .ok (.ireturn, 1) := by decide +kernel
theorem dL_law_404 : decode cL_law 404 = .ok (.aload_n 1, 1) := by decide +kernel
theorem dL_law_405 : decode cL_law 405 = .ok (.aload_n 0, 1) := by decide +kernel
theorem dL_law_406 : decode cL_law 406 = .ok (.iload_n 3, 1) := by decide +kernel
theorem dL_law_407 : decode cL_law 407 = .ok (.iconst 1, 1) := by decide +kernel
theorem dL_law_408 : decode cL_law 408 = .ok (.iadd, 1) := by decide +kernel
theorem dL_law_409 : decode cL_law 409 = .ok (.iaload, 1) := by decide +kernel
theorem dL_law_410 : decode cL_law 410 = .ok (.aload_n 0, 1) := by decide +kernel
theorem dL_law_411 : decode cL_law 411 = .ok (.iload_n 3, 1) := by decide +kernel
theorem dL_law_412 : decode cL_law 412 = .ok (.iconst 2, 1) := by decide +kernel
theorem dL_law_413 : decode cL_law 413 = .ok (.iadd, 1) := by decide +kernel
theorem dL_law_414 : decode cL_law 414 = .ok (.iaload, 1) := by decide +kernel
theorem dL_law_415 : decode cL_law 415 = .ok (.aload_n 0, 1) := by decide +kernel
theorem dL_law_416 : decode cL_law 416 = .ok (.iload_n 3, 1) := by decide +kernel
theorem dL_law_417 : decode cL_law 417 = .ok (.iconst 3, 1) := by decide +kernel
theorem dL_law_418 : decode cL_law 418 = .ok (.iadd, 1) := by decide +kernel
theorem dL_law_419 : decode cL_law 419 = .ok (.iaload, 1) := by decide +kernel
theorem dL_law_420 : decode cL_law 420 = .ok (.invokevirtual 52, 3) := by decide +kernel
theorem dL_law_423 : decode cL_law 423 = .ok (.aload_n 2, 1) := by decide +kernel
theorem dL_law_424 : decode cL_law 424 = .ok (.aload_n 0, 1) := by decide +kernel
theorem dL_law_425 : decode cL_law 425 = .ok (.iload_n 3, 1) := by decide +kernel
theorem dL_law_426 : decode cL_law 426 = .ok (.iconst 1, 1) := by decide +kernel
theorem dL_law_427 : decode cL_law 427 = .ok (.iadd, 1) := by decide +kernel
theorem dL_law_428 : decode cL_law 428 = .ok (.iaload, 1) := by decide +kernel
theorem dL_law_429 : decode cL_law 429 = .ok (.aload_n 0, 1) := by decide +kernel
theorem dL_law_430 : decode cL_law 430 = .ok (.iload_n 3, 1) := by decide +kernel
theorem dL_law_431 : decode cL_law 431 = .ok (.iconst 2, 1) := by decide +kernel
theorem dL_law_432 : decode cL_law 432 = .ok (.iadd, 1) := by decide +kernel
theorem dL_law_433 : decode cL_law 433 = .ok (.iaload, 1) := by decide +kernel
theorem dL_law_434 : decode cL_law 434 = .ok (.aload_n 0, 1) := by decide +kernel
theorem dL_law_435 : decode cL_law 435 = .ok (.iload_n 3, 1) := by decide +kernel
theorem dL_law_436 : decode cL_law 436 = .ok (.iconst 3, 1) := by decide +kernel
theorem dL_law_437 : decode cL_law 437 = .ok (.iadd, 1) := by decide +kernel
theorem dL_law_438 : decode cL_law 438 = .ok (.iaload, 1) := by decide +kernel
theorem dL_law_439 : decode cL_law 439 = .ok (.invokevirtual 55, 3) := by decide +kernel
theorem dL_law_442 : decode cL_law 442 = .ok (.if_icmp .eq 522, 3) := by decide +kernel
theorem dL_law_445 : decode cL_law 445 = .ok (.iconst 0, 1) := by decide +kernel
theorem dL_law_446 : decode cL_law 446 = .ok (.ireturn, 1) := by decide +kernel
theorem dL_law_447 : decode cL_law 447 = .ok (.aload_n 1, 1) := by decide +kernel
theorem dL_law_448 : decode cL_law 448 = .ok (.aload_n 0, 1) := by decide +kernel
theorem dL_law_449 : decode cL_law 449 = .ok (.iload_n 3, 1) := by decide +kernel
theorem dL_law_450 : decode cL_law 450 = .ok (.iconst 1, 1) := by decide +kernel
theorem dL_law_451 : decode cL_law 451 = .ok (.iadd, 1) := by decide +kernel
theorem dL_law_452 : decode cL_law 452 = .ok (.iaload, 1) := by decide +kernel
theorem dL_law_453 : decode cL_law 453 = .ok (.invokevirtual 56, 3) := by decide +kernel
theorem dL_law_456 : decode cL_law 456 = .ok (.aload_n 2, 1) := by decide +kernel
theorem dL_law_457 : decode cL_law 457 = .ok (.aload_n 0, 1) := by decide +kernel
theorem dL_law_458 : decode cL_law 458 = .ok (.iload_n 3, 1) := by decide +kernel
theorem dL_law_459 : decode cL_law 459 = .ok (.iconst 1, 1) := by decide +kernel
theorem dL_law_460 : decode cL_law 460 = .ok (.iadd, 1) := by decide +kernel
theorem dL_law_461 : decode cL_law 461 = .ok (.iaload, 1) := by decide +kernel
theorem dL_law_462 : decode cL_law 462 = .ok (.invokevirtual 59, 3) := by decide +kernel
theorem dL_law_465 : decode cL_law 465 = .ok (.if_icmp .eq 499, 3) := by decide +kernel
theorem dL_law_468 : decode cL_law 468 = .ok (.iconst 0, 1) := by decide +kernel
theorem dL_law_469 : decode cL_law 469 = .ok (.ireturn, 1) := by decide +kernel
theorem dL_law_470 : decode cL_law 470 = .ok (.aload_n 1, 1) := by decide +kernel
theorem dL_law_471 : decode cL_law 471 = .ok (.aload_n 0, 1) := by decide +kernel
theorem dL_law_472 : decode cL_law 472 = .ok (.iload_n 3, 1) := by decide +kernel
theorem dL_law_473 : decode cL_law 473 = .ok (.iconst 1, 1) := by decide +kernel
theorem dL_law_474 : decode cL_law 474 = .ok (.iadd, 1) := by decide +kernel
theorem dL_law_475 : decode cL_law 475 = .ok (.iaload, 1) := by decide +kernel
theorem dL_law_476 : decode cL_law 476 = .ok (.aload_n 0, 1) := by decide +kernel
theorem dL_law_477 : decode cL_law 477 = .ok (.iload_n 3, 1) := by decide +kernel
theorem dL_law_478 : decode cL_law 478 = .ok (.iconst 2, 1) := by decide +kernel
theorem dL_law_479 : decode cL_law 479 = .ok (.iadd, 1) := by decide +kernel
theorem dL_law_480 : decode cL_law 480 = .ok (.iaload, 1) := by decide +kernel
theorem dL_law_481 : decode cL_law 481 = .ok (.invokevirtual 60, 3) := by decide +kernel
theorem dL_law_484 : decode cL_law 484 = .ok (.aload_n 2, 1) := by decide +kernel
theorem dL_law_485 : decode cL_law 485 = .ok (.aload_n 0, 1) := by decide +kernel
theorem dL_law_486 : decode cL_law 486 = .ok (.iload_n 3, 1) := by decide +kernel
theorem dL_law_487 : decode cL_law 487 = .ok (.iconst 1, 1) := by decide +kernel
theorem dL_law_488 : decode cL_law 488 = .ok (.iadd, 1) := by decide +kernel
theorem dL_law_489 : decode cL_law 489 = .ok (.iaload, 1) := by decide +kernel
theorem dL_law_490 : decode cL_law 490 = .ok (.aload_n 0, 1) := by decide +kernel
theorem dL_law_491 : decode cL_law 491 = .ok (.iload_n 3, 1) := by decide +kernel
theorem dL_law_492 : decode cL_law 492 = .ok (.iconst 2, 1) := by decide +kernel
theorem dL_law_493 : decode cL_law 493 = .ok (.iadd, 1) := by decide +kernel
theorem dL_law_494 : decode cL_law 494 = .ok (.iaload, 1) := by decide +kernel
theorem dL_law_495 : decode cL_law 495 = .ok (.invokevirtual 63, 3) := by decide +kernel
theorem dL_law_498 : decode cL_law 498 = .ok (.if_icmp .eq 466, 3) := by decide +kernel
theorem dL_law_501 : decode cL_law 501 = .ok (.iconst 0, 1) := by decide +kernel
theorem dL_law_502 : decode cL_law 502 = .ok (.ireturn, 1) := by decide +kernel
theorem dL_law_503 : decode cL_law 503 = .ok (.aload_n 1, 1) := by decide +kernel
theorem dL_law_504 : decode cL_law 504 = .ok (.aload_n 0, 1) := by decide +kernel
theorem dL_law_505 : decode cL_law 505 = .ok (.iload_n 3, 1) := by decide +kernel
theorem dL_law_506 : decode cL_law 506 = .ok (.iconst 1, 1) := by decide +kernel
theorem dL_law_507 : decode cL_law 507 = .ok (.iadd, 1) := by decide +kernel
theorem dL_law_508 : decode cL_law 508 = .ok (.iaload, 1) := by decide +kernel
theorem dL_law_509 : decode cL_law 509 = .ok (.aload_n 0, 1) := by decide +kernel
theorem dL_law_510 : decode cL_law 510 = .ok (.iload_n 3, 1) := by decide +kernel
theorem dL_law_511 : decode cL_law 511 = .ok (.iconst 2, 1) := by decide +kernel
theorem dL_law_512 : decode cL_law 512 = .ok (.iadd, 1) := by decide +kernel
theorem dL_law_513 : decode cL_law 513 = .ok (.iaload, 1) := by decide +kernel
theorem dL_law_514 : decode cL_law 514 = .ok (.invokevirtual 64, 3) := by decide +kernel
theorem dL_law_517 : decode cL_law 517 = .ok (.aload_n 2, 1) := by decide +kernel
theorem dL_law_518 : decode cL_law 518 = .ok (.aload_n 0, 1) := by decide +kernel
theorem dL_law_519 : decode cL_law 519 = .ok (.iload_n 3, 1) := by decide +kernel
theorem dL_law_520 : decode cL_law 520 = .ok (.iconst 1, 1) := by decide +kernel
theorem dL_law_521 : decode cL_law 521 = .ok (.iadd, 1) := by decide +kernel
theorem dL_law_522 : decode cL_law 522 = .ok (.iaload, 1) := by decide +kernel
theorem dL_law_523 : decode cL_law 523 = .ok (.aload_n 0, 1) := by decide +kernel
theorem dL_law_524 : decode cL_law 524 = .ok (.iload_n 3, 1) := by decide +kernel
theorem dL_law_525 : decode cL_law 525 = .ok (.iconst 2, 1) := by decide +kernel
theorem dL_law_526 : decode cL_law 526 = .ok (.iadd, 1) := by decide +kernel
theorem dL_law_527 : decode cL_law 527 = .ok (.iaload, 1) := by decide +kernel
theorem dL_law_528 : decode cL_law 528 = .ok (.invokevirtual 67, 3) := by decide +kernel
theorem dL_law_531 : decode cL_law 531 = .ok (.if_icmp .eq 433, 3) := by decide +kernel
theorem dL_law_534 : decode cL_law 534 = .ok (.iconst 0, 1) := by decide +kernel
theorem dL_law_535 : decode cL_law 535 = .ok (.ireturn, 1) := by decide +kernel
theorem dL_law_536 : decode cL_law 536 = .ok (.aload_n 1, 1) := by decide +kernel
theorem dL_law_537 : decode cL_law 537 = .ok (.aload_n 0, 1) := by decide +kernel
theorem dL_law_538 : decode cL_law 538 = .ok (.iload_n 3, 1) := by decide +kernel
theorem dL_law_539 : decode cL_law 539 = .ok (.iconst 1, 1) := by decide +kernel
theorem dL_law_540 : decode cL_law 540 = .ok (.iadd, 1) := by decide +kernel
theorem dL_law_541 : decode cL_law 541 = .ok (.iaload, 1) := by decide +kernel
theorem dL_law_542 : decode cL_law 542 = .ok (.invokevirtual 68, 3) := by decide +kernel
theorem dL_law_545 : decode cL_law 545 = .ok (.aload_n 2, 1) := by decide +kernel
theorem dL_law_546 : decode cL_law 546 = .ok (.aload_n 0, 1) := by decide +kernel
theorem dL_law_547 : decode cL_law 547 = .ok (.iload_n 3, 1) := by decide +kernel
theorem dL_law_548 : decode cL_law 548 = .ok (.iconst 1, 1) := by decide +kernel
theorem dL_law_549 : decode cL_law 549 = .ok (.iadd, 1) := by decide +kernel
theorem dL_law_550 : decode cL_law 550 = .ok (.iaload, 1) := by decide +kernel
theorem dL_law_551 : decode cL_law 551 = .ok (.invokevirtual 71, 3) := by decide +kernel
theorem dL_law_554 : decode cL_law 554 = .ok (.if_icmp .eq 410, 3) := by decide +kernel
theorem dL_law_557 : decode cL_law 557 = .ok (.iconst 0, 1) := by decide +kernel
theorem dL_law_558 : decode cL_law 558 = .ok (.ireturn, 1) := by decide +kernel
theorem dL_law_559 : decode cL_law 559 = .ok (.aload_n 1, 1) := by decide +kernel
theorem dL_law_560 : decode cL_law 560 = .ok (.aload_n 0, 1) := by decide +kernel
theorem dL_law_561 : decode cL_law 561 = .ok (.iload_n 3, 1) := by decide +kernel
theorem dL_law_562 : decode cL_law 562 = .ok (.iconst 1, 1) := by decide +kernel
theorem dL_law_563 : decode cL_law 563 = .ok (.iadd, 1) := by decide +kernel
theorem dL_law_564 : decode cL_law 564 = .ok (.iaload, 1) := by decide +kernel
theorem dL_law_565 : decode cL_law 565 = .ok (.invokevirtual 72, 3) := by decide +kernel
theorem dL_law_568 : decode cL_law 568 = .ok (.aload_n 2, 1) := by decide +kernel
theorem dL_law_569 : decode cL_law 569 = .ok (.aload_n 0, 1) := by decide +kernel
theorem dL_law_570 : decode cL_law 570 = .ok (.iload_n 3, 1) := by decide +kernel
theorem dL_law_571 : decode cL_law 571 = .ok (.iconst 1, 1) := by decide +kernel
theorem dL_law_572 : decode cL_law 572 = .ok (.iadd, 1) := by decide +kernel
theorem dL_law_573 : decode cL_law 573 = .ok (.iaload, 1) := by decide +kernel
theorem dL_law_574 : decode cL_law 574 = .ok (.invokevirtual 75, 3) := by decide +kernel
theorem dL_law_577 : decode cL_law 577 = .ok (.if_icmp .eq 387, 3) := by decide +kernel
theorem dL_law_580 : decode cL_law 580 = .ok (.iconst 0, 1) := by decide +kernel
theorem dL_law_581 : decode cL_law 581 = .ok (.ireturn, 1) := by decide +kernel
theorem dL_law_582 : decode cL_law 582 = .ok (.aload_n 1, 1) := by decide +kernel
theorem dL_law_583 : decode cL_law 583 = .ok (.aload_n 0, 1) := by decide +kernel
theorem dL_law_584 : decode cL_law 584 = .ok (.iload_n 3, 1) := by decide +kernel
theorem dL_law_585 : decode cL_law 585 = .ok (.iconst 1, 1) := by decide +kernel
theorem dL_law_586 : decode cL_law 586 = .ok (.iadd, 1) := by decide +kernel
theorem dL_law_587 : decode cL_law 587 = .ok (.iaload, 1) := by decide +kernel
theorem dL_law_588 : decode cL_law 588 = .ok (.aload_n 0, 1) := by decide +kernel
theorem dL_law_589 : decode cL_law 589 = .ok (.iload_n 3, 1) := by decide +kernel
theorem dL_law_590 : decode cL_law 590 = .ok (.iconst 2, 1) := by decide +kernel
theorem dL_law_591 : decode cL_law 591 = .ok (.iadd, 1) := by decide +kernel
theorem dL_law_592 : decode cL_law 592 = .ok (.iaload, 1) := by decide +kernel
theorem dL_law_593 : decode cL_law 593 = .ok (.aload_n 0, 1) := by decide +kernel
theorem dL_law_594 : decode cL_law 594 = .ok (.iload_n 3, 1) := by decide +kernel
theorem dL_law_595 : decode cL_law 595 = .ok (.iconst 3, 1) := by decide +kernel
theorem dL_law_596 : decode cL_law 596 = .ok (.iadd, 1) := by decide +kernel
theorem dL_law_597 : decode cL_law 597 = .ok (.iaload, 1) := by decide +kernel
theorem dL_law_598 : decode cL_law 598 = .ok (.invokevirtual 76, 3) := by decide +kernel
theorem dL_law_601 : decode cL_law 601 = .ok (.aload_n 2, 1) := by decide +kernel
theorem dL_law_602 : decode cL_law 602 = .ok (.aload_n 0, 1) := by decide +kernel
theorem dL_law_603 : decode cL_law 603 = .ok (.iload_n 3, 1) := by decide +kernel
theorem dL_law_604 : decode cL_law 604 = .ok (.iconst 1, 1) := by decide +kernel
theorem dL_law_605 : decode cL_law 605 = .ok (.iadd, 1) := by decide +kernel
theorem dL_law_606 : decode cL_law 606 = .ok (.iaload, 1) := by decide +kernel
theorem dL_law_607 : decode cL_law 607 = .ok (.aload_n 0, 1) := by decide +kernel
theorem dL_law_608 : decode cL_law 608 = .ok (.iload_n 3, 1) := by decide +kernel
theorem dL_law_609 : decode cL_law 609 = .ok (.iconst 2, 1) := by decide +kernel
theorem dL_law_610 : decode cL_law 610 = .ok (.iadd, 1) := by decide +kernel
theorem dL_law_611 : decode cL_law 611 = .ok (.iaload, 1) := by decide +kernel
theorem dL_law_612 : decode cL_law 612 = .ok (.aload_n 0, 1) := by decide +kernel
theorem dL_law_613 : decode cL_law 613 = .ok (.iload_n 3, 1) := by decide +kernel
theorem dL_law_614 : decode cL_law 614 = .ok (.iconst 3, 1) := by decide +kernel
theorem dL_law_615 : decode cL_law 615 = .ok (.iadd, 1) := by decide +kernel
theorem dL_law_616 : decode cL_law 616 = .ok (.iaload, 1) := by decide +kernel
theorem dL_law_617 : decode cL_law 617 = .ok (.invokevirtual 79, 3) := by decide +kernel
theorem dL_law_620 : decode cL_law 620 = .ok (.if_icmp .eq 344, 3) := by decide +kernel
theorem dL_law_623 : decode cL_law 623 = .ok (.iconst 0, 1) := by decide +kernel
theorem dL_law_624 : decode cL_law 624 = .ok (.ireturn, 1) := by decide +kernel
theorem dL_law_625 : decode cL_law 625 = .ok (.aload_n 1, 1) := by decide +kernel
theorem dL_law_626 : decode cL_law 626 = .ok (.aload_n 0, 1) := by decide +kernel
theorem dL_law_627 : decode cL_law 627 = .ok (.iload_n 3, 1) := by decide +kernel
theorem dL_law_628 : decode cL_law 628 = .ok (.iconst 1, 1) := by decide +kernel
theorem dL_law_629 : decode cL_law 629 = .ok (.iadd, 1) := by decide +kernel
theorem dL_law_630 : decode cL_law 630 = .ok (.iaload, 1) := by decide +kernel
theorem dL_law_631 : decode cL_law 631 = .ok (.aload_n 0, 1) := by decide +kernel
theorem dL_law_632 : decode cL_law 632 = .ok (.iload_n 3, 1) := by decide +kernel
theorem dL_law_633 : decode cL_law 633 = .ok (.iconst 2, 1) := by decide +kernel
theorem dL_law_634 : decode cL_law 634 = .ok (.iadd, 1) := by decide +kernel
theorem dL_law_635 : decode cL_law 635 = .ok (.iaload, 1) := by decide +kernel
theorem dL_law_636 : decode cL_law 636 = .ok (.aload_n 0, 1) := by decide +kernel
theorem dL_law_637 : decode cL_law 637 = .ok (.iload_n 3, 1) := by decide +kernel
theorem dL_law_638 : decode cL_law 638 = .ok (.iconst 3, 1) := by decide +kernel
theorem dL_law_639 : decode cL_law 639 = .ok (.iadd, 1) := by decide +kernel
theorem dL_law_640 : decode cL_law 640 = .ok (.iaload, 1) := by decide +kernel
theorem dL_law_641 : decode cL_law 641 = .ok (.invokevirtual 80, 3) := by decide +kernel
theorem dL_law_644 : decode cL_law 644 = .ok (.aload_n 2, 1) := by decide +kernel
theorem dL_law_645 : decode cL_law 645 = .ok (.aload_n 0, 1) := by decide +kernel
theorem dL_law_646 : decode cL_law 646 = .ok (.iload_n 3, 1) := by decide +kernel
theorem dL_law_647 : decode cL_law 647 = .ok (.iconst 1, 1) := by decide +kernel
theorem dL_law_648 : decode cL_law 648 = .ok (.iadd, 1) := by decide +kernel
theorem dL_law_649 : decode cL_law 649 = .ok (.iaload, 1) := by decide +kernel
theorem dL_law_650 : decode cL_law 650 = .ok (.aload_n 0, 1) := by decide +kernel
theorem dL_law_651 : decode cL_law 651 = .ok (.iload_n 3, 1) := by decide +kernel
theorem dL_law_652 : decode cL_law 652 = .ok (.iconst 2, 1) := by decide +kernel
theorem dL_law_653 : decode cL_law 653 = .ok (.iadd, 1) := by decide +kernel
theorem dL_law_654 : decode cL_law 654 = .ok (.iaload, 1) := by decide +kernel
theorem dL_law_655 : decode cL_law 655 = .ok (.aload_n 0, 1) := by decide +kernel
theorem dL_law_656 : decode cL_law 656 = .ok (.iload_n 3, 1) := by decide +kernel
theorem dL_law_657 : decode cL_law 657 = .ok (.iconst 3, 1) := by decide +kernel
theorem dL_law_658 : decode cL_law 658 = .ok (.iadd, 1) := by decide +kernel
theorem dL_law_659 : decode cL_law 659 = .ok (.iaload, 1) := by decide +kernel
theorem dL_law_660 : decode cL_law 660 = .ok (.invokevirtual 83, 3) := by decide +kernel
theorem dL_law_663 : decode cL_law 663 = .ok (.if_icmp .eq 301, 3) := by decide +kernel
theorem dL_law_666 : decode cL_law 666 = .ok (.iconst 0, 1) := by decide +kernel
theorem dL_law_667 : decode cL_law 667 = .ok (.ireturn, 1) := by decide +kernel
theorem dL_law_668 : decode cL_law 668 = .ok (.aload_n 1, 1) := by decide +kernel
theorem dL_law_669 : decode cL_law 669 = .ok (.aload_n 0, 1) := by decide +kernel
theorem dL_law_670 : decode cL_law 670 = .ok (.iload_n 3, 1) := by decide +kernel
theorem dL_law_671 : decode cL_law 671 = .ok (.iconst 1, 1) := by decide +kernel
theorem dL_law_672 : decode cL_law 672 = .ok (.iadd, 1) := by decide +kernel
theorem dL_law_673 : decode cL_law 673 = .ok (.iaload, 1) := by decide +kernel
theorem dL_law_674 : decode cL_law 674 = .ok (.aload_n 0, 1) := by decide +kernel
theorem dL_law_675 : decode cL_law 675 = .ok (.iload_n 3, 1) := by decide +kernel
theorem dL_law_676 : decode cL_law 676 = .ok (.iconst 2, 1) := by decide +kernel
theorem dL_law_677 : decode cL_law 677 = .ok (.iadd, 1) := by decide +kernel
theorem dL_law_678 : decode cL_law 678 = .ok (.iaload, 1) := by decide +kernel
theorem dL_law_679 : decode cL_law 679 = .ok (.invokevirtual 84, 3) := by decide +kernel
theorem dL_law_682 : decode cL_law 682 = .ok (.aload_n 2, 1) := by decide +kernel
theorem dL_law_683 : decode cL_law 683 = .ok (.aload_n 0, 1) := by decide +kernel
theorem dL_law_684 : decode cL_law 684 = .ok (.iload_n 3, 1) := by decide +kernel
theorem dL_law_685 : decode cL_law 685 = .ok (.iconst 1, 1) := by decide +kernel
theorem dL_law_686 : decode cL_law 686 = .ok (.iadd, 1) := by decide +kernel
theorem dL_law_687 : decode cL_law 687 = .ok (.iaload, 1) := by decide +kernel
theorem dL_law_688 : decode cL_law 688 = .ok (.aload_n 0, 1) := by decide +kernel
theorem dL_law_689 : decode cL_law 689 = .ok (.iload_n 3, 1) := by decide +kernel
theorem dL_law_690 : decode cL_law 690 = .ok (.iconst 2, 1) := by decide +kernel
theorem dL_law_691 : decode cL_law 691 = .ok (.iadd, 1) := by decide +kernel
theorem dL_law_692 : decode cL_law 692 = .ok (.iaload, 1) := by decide +kernel
theorem dL_law_693 : decode cL_law 693 = .ok (.invokevirtual 87, 3) := by decide +kernel
theorem dL_law_696 : decode cL_law 696 = .ok (.if_icmp .eq 268, 3) := by decide +kernel
theorem dL_law_699 : decode cL_law 699 = .ok (.iconst 0, 1) := by decide +kernel
theorem dL_law_700 : decode cL_law 700 = .ok (.ireturn, 1) := by decide +kernel
theorem dL_law_701 : decode cL_law 701 = .ok (.aload_n 1, 1) := by decide +kernel
theorem dL_law_702 : decode cL_law 702 = .ok (.aload_n 0, 1) := by decide +kernel
theorem dL_law_703 : decode cL_law 703 = .ok (.iload_n 3, 1) := by decide +kernel
theorem dL_law_704 : decode cL_law 704 = .ok (.iconst 1, 1) := by decide +kernel
theorem dL_law_705 : decode cL_law 705 = .ok (.iadd, 1) := by decide +kernel
theorem dL_law_706 : decode cL_law 706 = .ok (.iaload, 1) := by decide +kernel
theorem dL_law_707 : decode cL_law 707 = .ok (.aload_n 0, 1) := by decide +kernel
theorem dL_law_708 : decode cL_law 708 = .ok (.iload_n 3, 1) := by decide +kernel
theorem dL_law_709 : decode cL_law 709 = .ok (.iconst 2, 1) := by decide +kernel
theorem dL_law_710 : decode cL_law 710 = .ok (.iadd, 1) := by decide +kernel
theorem dL_law_711 : decode cL_law 711 = .ok (.iaload, 1) := by decide +kernel
theorem dL_law_712 : decode cL_law 712 = .ok (.invokevirtual 88, 3) := by decide +kernel
theorem dL_law_715 : decode cL_law 715 = .ok (.aload_n 2, 1) := by decide +kernel
theorem dL_law_716 : decode cL_law 716 = .ok (.aload_n 0, 1) := by decide +kernel
theorem dL_law_717 : decode cL_law 717 = .ok (.iload_n 3, 1) := by decide +kernel
theorem dL_law_718 : decode cL_law 718 = .ok (.iconst 1, 1) := by decide +kernel
theorem dL_law_719 : decode cL_law 719 = .ok (.iadd, 1) := by decide +kernel
theorem dL_law_720 : decode cL_law 720 = .ok (.iaload, 1) := by decide +kernel
theorem dL_law_721 : decode cL_law 721 = .ok (.aload_n 0, 1) := by decide +kernel
theorem dL_law_722 : decode cL_law 722 = .ok (.iload_n 3, 1) := by decide +kernel
theorem dL_law_723 : decode cL_law 723 = .ok (.iconst 2, 1) := by decide +kernel
theorem dL_law_724 : decode cL_law 724 = .ok (.iadd, 1) := by decide +kernel
theorem dL_law_725 : decode cL_law 725 = .ok (.iaload, 1) := by decide +kernel
theorem dL_law_726 : decode cL_law 726 = .ok (.invokevirtual 91, 3) := by decide +kernel
theorem dL_law_729 : decode cL_law 729 = .ok (.if_icmp .eq 235, 3) := by decide +kernel
theorem dL_law_732 : decode cL_law 732 = .ok (.iconst 0, 1) := by decide +kernel
theorem dL_law_733 : decode cL_law 733 = .ok (.ireturn, 1) := by decide +kernel
theorem dL_law_734 : decode cL_law 734 = .ok (.aload_n 1, 1) := by decide +kernel
theorem dL_law_735 : decode cL_law 735 = .ok (.invokevirtual 92, 3) := by decide +kernel
theorem dL_law_738 : decode cL_law 738 = .ok (.aload_n 2, 1) := by decide +kernel
theorem dL_law_739 : decode cL_law 739 = .ok (.invokevirtual 95, 3) := by decide +kernel
theorem dL_law_742 : decode cL_law 742 = .ok (.if_icmp .eq 222, 3) := by decide +kernel
theorem dL_law_745 : decode cL_law 745 = .ok (.iconst 0, 1) := by decide +kernel
theorem dL_law_746 : decode cL_law 746 = .ok (.ireturn, 1) := by decide +kernel
theorem dL_law_747 : decode cL_law 747 = .ok (.aload_n 1, 1) := by decide +kernel
theorem dL_law_748 : decode cL_law 748 = .ok (.aload_n 0, 1) := by decide +kernel
theorem dL_law_749 : decode cL_law 749 = .ok (.iload_n 3, 1) := by decide +kernel
theorem dL_law_750 : decode cL_law 750 = .ok (.iconst 1, 1) := by decide +kernel
theorem dL_law_751 : decode cL_law 751 = .ok (.iadd, 1) := by decide +kernel
theorem dL_law_752 : decode cL_law 752 = .ok (.iaload, 1) := by decide +kernel
theorem dL_law_753 : decode cL_law 753 = .ok (.aload_n 0, 1) := by decide +kernel
theorem dL_law_754 : decode cL_law 754 = .ok (.iload_n 3, 1) := by decide +kernel
theorem dL_law_755 : decode cL_law 755 = .ok (.iconst 2, 1) := by decide +kernel
theorem dL_law_756 : decode cL_law 756 = .ok (.iadd, 1) := by decide +kernel
theorem dL_law_757 : decode cL_law 757 = .ok (.iaload, 1) := by decide +kernel
theorem dL_law_758 : decode cL_law 758 = .ok (.invokevirtual 96, 3) := by decide +kernel
theorem dL_law_761 : decode cL_law 761 = .ok (.aload_n 2, 1) := by decide +kernel
theorem dL_law_762 : decode cL_law 762 = .ok (.aload_n 0, 1) := by decide +kernel
theorem dL_law_763 : decode cL_law 763 = .ok (.iload_n 3, 1) := by decide +kernel
theorem dL_law_764 : decode cL_law 764 = .ok (.iconst 1, 1) := by decide +kernel
theorem dL_law_765 : decode cL_law 765 = .ok (.iadd, 1) := by decide +kernel
theorem dL_law_766 : decode cL_law 766 = .ok (.iaload, 1) := by decide +kernel
theorem dL_law_767 : decode cL_law 767 = .ok (.aload_n 0, 1) := by decide +kernel
theorem dL_law_768 : decode cL_law 768 = .ok (.iload_n 3, 1) := by decide +kernel
theorem dL_law_769 : decode cL_law 769 = .ok (.iconst 2, 1) := by decide +kernel
theorem dL_law_770 : decode cL_law 770 = .ok (.iadd, 1) := by decide +kernel
theorem dL_law_771 : decode cL_law 771 = .ok (.iaload, 1) := by decide +kernel
theorem dL_law_772 : decode cL_law 772 = .ok (.invokevirtual 99, 3) := by decide +kernel
theorem dL_law_775 : decode cL_law 775 = .ok (.if_icmp .eq 189, 3) := by decide +kernel
theorem dL_law_778 : decode cL_law 778 = .ok (.iconst 0, 1) := by decide +kernel
theorem dL_law_779 : decode cL_law 779 = .ok (.ireturn, 1) := by decide +kernel
theorem dL_law_780 : decode cL_law 780 = .ok (.aload_n 1, 1) := by decide +kernel
theorem dL_law_781 : decode cL_law 781 = .ok (.aload_n 0, 1) := by decide +kernel
theorem dL_law_782 : decode cL_law 782 = .ok (.iload_n 3, 1) := by decide +kernel
theorem dL_law_783 : decode cL_law 783 = .ok (.iconst 1, 1) := by decide +kernel
theorem dL_law_784 : decode cL_law 784 = .ok (.iadd, 1) := by decide +kernel
theorem dL_law_785 : decode cL_law 785 = .ok (.iaload, 1) := by decide +kernel
theorem dL_law_786 : decode cL_law 786 = .ok (.aload_n 0, 1) := by decide +kernel
theorem dL_law_787 : decode cL_law 787 = .ok (.iload_n 3, 1) := by decide +kernel
theorem dL_law_788 : decode cL_law 788 = .ok (.iconst 2, 1) := by decide +kernel
theorem dL_law_789 : decode cL_law 789 = .ok (.iadd, 1) := by decide +kernel
theorem dL_law_790 : decode cL_law 790 = .ok (.iaload, 1) := by decide +kernel
theorem dL_law_791 : decode cL_law 791 = .ok (.aload_n 0, 1) := by decide +kernel
theorem dL_law_792 : decode cL_law 792 = .ok (.iload_n 3, 1) := by decide +kernel
theorem dL_law_793 : decode cL_law 793 = .ok (.iconst 3, 1) := by decide +kernel
theorem dL_law_794 : decode cL_law 794 = .ok (.iadd, 1) := by decide +kernel
theorem dL_law_795 : decode cL_law 795 = .ok (.iaload, 1) := by decide +kernel
theorem dL_law_796 : decode cL_law 796 = .ok (.invokevirtual 100, 3) := by decide +kernel
theorem dL_law_799 : decode cL_law 799 = .ok (.aload_n 2, 1) := by decide +kernel
theorem dL_law_800 : decode cL_law 800 = .ok (.aload_n 0, 1) := by decide +kernel
theorem dL_law_801 : decode cL_law 801 = .ok (.iload_n 3, 1) := by decide +kernel
theorem dL_law_802 : decode cL_law 802 = .ok (.iconst 1, 1) := by decide +kernel
theorem dL_law_803 : decode cL_law 803 = .ok (.iadd, 1) := by decide +kernel
theorem dL_law_804 : decode cL_law 804 = .ok (.iaload, 1) := by decide +kernel
theorem dL_law_805 : decode cL_law 805 = .ok (.aload_n 0, 1) := by decide +kernel
theorem dL_law_806 : decode cL_law 806 = .ok (.iload_n 3, 1) := by decide +kernel
theorem dL_law_807 : decode cL_law 807 = .ok (.iconst 2, 1) := by decide +kernel
theorem dL_law_808 : decode cL_law 808 = .ok (.iadd, 1) := by decide +kernel
theorem dL_law_809 : decode cL_law 809 = .ok (.iaload, 1) := by decide +kernel
theorem dL_law_810 : decode cL_law 810 = .ok (.aload_n 0, 1) := by decide +kernel
theorem dL_law_811 : decode cL_law 811 = .ok (.iload_n 3, 1) := by decide +kernel
theorem dL_law_812 : decode cL_law 812 = .ok (.iconst 3, 1) := by decide +kernel
theorem dL_law_813 : decode cL_law 813 = .ok (.iadd, 1) := by decide +kernel
theorem dL_law_814 : decode cL_law 814 = .ok (.iaload, 1) := by decide +kernel
theorem dL_law_815 : decode cL_law 815 = .ok (.invokevirtual 103, 3) := by decide +kernel
theorem dL_law_818 : decode cL_law 818 = .ok (.if_icmp .eq 146, 3) := by decide +kernel
theorem dL_law_821 : decode cL_law 821 = .ok (.iconst 0, 1) := by decide +kernel
theorem dL_law_822 : decode cL_law 822 = .ok (.ireturn, 1) := by decide +kernel
theorem dL_law_823 : decode cL_law 823 = .ok (.aload_n 1, 1) := by decide +kernel
theorem dL_law_824 : decode cL_law 824 = .ok (.invokevirtual 104, 3) := by decide +kernel
theorem dL_law_827 : decode cL_law 827 = .ok (.aload_n 2, 1) := by decide +kernel
theorem dL_law_828 : decode cL_law 828 = .ok (.invokevirtual 107, 3) := by decide +kernel
theorem dL_law_831 : decode cL_law 831 = .ok (.if_icmp .eq 133, 3) := by decide +kernel
theorem dL_law_834 : decode cL_law 834 = .ok (.iconst 0, 1) := by decide +kernel
theorem dL_law_835 : decode cL_law 835 = .ok (.ireturn, 1) := by decide +kernel
theorem dL_law_836 : decode cL_law 836 = .ok (.aload_n 1, 1) := by decide +kernel
theorem dL_law_837 : decode cL_law 837 = .ok (.aload_n 0, 1) := by decide +kernel
theorem dL_law_838 : decode cL_law 838 = .ok (.iload_n 3, 1) := by decide +kernel
theorem dL_law_839 : decode cL_law 839 = .ok (.iconst 1, 1) := by decide +kernel
theorem dL_law_840 : decode cL_law 840 = .ok (.iadd, 1) := by decide +kernel
theorem dL_law_841 : decode cL_law 841 = .ok (.iaload, 1) := by decide +kernel
theorem dL_law_842 : decode cL_law 842 = .ok (.invokevirtual 108, 3) := by decide +kernel
theorem dL_law_845 : decode cL_law 845 = .ok (.aload_n 2, 1) := by decide +kernel
theorem dL_law_846 : decode cL_law 846 = .ok (.aload_n 0, 1) := by decide +kernel
theorem dL_law_847 : decode cL_law 847 = .ok (.iload_n 3, 1) := by decide +kernel
theorem dL_law_848 : decode cL_law 848 = .ok (.iconst 1, 1) := by decide +kernel
theorem dL_law_849 : decode cL_law 849 = .ok (.iadd, 1) := by decide +kernel
theorem dL_law_850 : decode cL_law 850 = .ok (.iaload, 1) := by decide +kernel
theorem dL_law_851 : decode cL_law 851 = .ok (.invokevirtual 111, 3) := by decide +kernel
theorem dL_law_854 : decode cL_law 854 = .ok (.if_icmp .eq 110, 3) := by decide +kernel
theorem dL_law_857 : decode cL_law 857 = .ok (.iconst 0, 1) := by decide +kernel
theorem dL_law_858 : decode cL_law 858 = .ok (.ireturn, 1) := by decide +kernel
theorem dL_law_859 : decode cL_law 859 = .ok (.aload_n 1, 1) := by decide +kernel
theorem dL_law_860 : decode cL_law 860 = .ok (.aload_n 0, 1) := by decide +kernel
theorem dL_law_861 : decode cL_law 861 = .ok (.iload_n 3, 1) := by decide +kernel
theorem dL_law_862 : decode cL_law 862 = .ok (.iconst 1, 1) := by decide +kernel
theorem dL_law_863 : decode cL_law 863 = .ok (.iadd, 1) := by decide +kernel
theorem dL_law_864 : decode cL_law 864 = .ok (.iaload, 1) := by decide +kernel
theorem dL_law_865 : decode cL_law 865 = .ok (.invokevirtual 112, 3) := by decide +kernel
theorem dL_law_868 : decode cL_law 868 = .ok (.aload_n 2, 1) := by decide +kernel
theorem dL_law_869 : decode cL_law 869 = .ok (.aload_n 0, 1) := by decide +kernel
theorem dL_law_870 : decode cL_law 870 = .ok (.iload_n 3, 1) := by decide +kernel
theorem dL_law_871 : decode cL_law 871 = .ok (.iconst 1, 1) := by decide +kernel
theorem dL_law_872 : decode cL_law 872 = .ok (.iadd, 1) := by decide +kernel
theorem dL_law_873 : decode cL_law 873 = .ok (.iaload, 1) := by decide +kernel
theorem dL_law_874 : decode cL_law 874 = .ok (.invokevirtual 115, 3) := by decide +kernel
theorem dL_law_877 : decode cL_law 877 = .ok (.if_icmp .eq 87, 3) := by decide +kernel
theorem dL_law_880 : decode cL_law 880 = .ok (.iconst 0, 1) := by decide +kernel
theorem dL_law_881 : decode cL_law 881 = .ok (.ireturn, 1) := by decide +kernel
theorem dL_law_882 : decode cL_law 882 = .ok (.aload_n 1, 1) := by decide +kernel
theorem dL_law_883 : decode cL_law 883 = .ok (.invokevirtual 116, 3) := by decide +kernel
theorem dL_law_886 : decode cL_law 886 = .ok (.aload_n 2, 1) := by decide +kernel
theorem dL_law_887 : decode cL_law 887 = .ok (.invokevirtual 119, 3) := by decide +kernel
theorem dL_law_890 : decode cL_law 890 = .ok (.if_icmp .eq 74, 3) := by decide +kernel
theorem dL_law_893 : decode cL_law 893 = .ok (.iconst 0, 1) := by decide +kernel
theorem dL_law_894 : decode cL_law 894 = .ok (.ireturn, 1) := by decide +kernel
theorem dL_law_895 : decode cL_law 895 = .ok (.aload_n 1, 1) := by decide +kernel
theorem dL_law_896 : decode cL_law 896 = .ok (.aload_n 0, 1) := by decide +kernel
theorem dL_law_897 : decode cL_law 897 = .ok (.iload_n 3, 1) := by decide +kernel
theorem dL_law_898 : decode cL_law 898 = .ok (.iconst 1, 1) := by decide +kernel
theorem dL_law_899 : decode cL_law 899 = .ok (.iadd, 1) := by decide +kernel
theorem dL_law_900 : decode cL_law 900 = .ok (.iaload, 1) := by decide +kernel
theorem dL_law_901 : decode cL_law 901 = .ok (.invokevirtual 120, 3) := by decide +kernel
theorem dL_law_904 : decode cL_law 904 = .ok (.aload_n 2, 1) := by decide +kernel
theorem dL_law_905 : decode cL_law 905 = .ok (.aload_n 0, 1) := by decide +kernel
theorem dL_law_906 : decode cL_law 906 = .ok (.iload_n 3, 1) := by decide +kernel
theorem dL_law_907 : decode cL_law 907 = .ok (.iconst 1, 1) := by decide +kernel
theorem dL_law_908 : decode cL_law 908 = .ok (.iadd, 1) := by decide +kernel
theorem dL_law_909 : decode cL_law 909 = .ok (.iaload, 1) := by decide +kernel
theorem dL_law_910 : decode cL_law 910 = .ok (.invokevirtual 123, 3) := by decide +kernel
theorem dL_law_913 : decode cL_law 913 = .ok (.if_icmp .eq 51, 3) := by decide +kernel
theorem dL_law_916 : decode cL_law 916 = .ok (.iconst 0, 1) := by decide +kernel
theorem dL_law_917 : decode cL_law 917 = .ok (.ireturn, 1) := by decide +kernel
theorem dL_law_918 : decode cL_law 918 = .ok (.aload_n 1, 1) := by decide +kernel
theorem dL_law_919 : decode cL_law 919 = .ok (.aload_n 0, 1) := by decide +kernel
theorem dL_law_920 : decode cL_law 920 = .ok (.iload_n 3, 1) := by decide +kernel
theorem dL_law_921 : decode cL_law 921 = .ok (.iconst 1, 1) := by decide +kernel
theorem dL_law_922 : decode cL_law 922 = .ok (.iadd, 1) := by decide +kernel
theorem dL_law_923 : decode cL_law 923 = .ok (.iaload, 1) := by decide +kernel
theorem dL_law_924 : decode cL_law 924 = .ok (.invokevirtual 124, 3) := by decide +kernel
theorem dL_law_927 : decode cL_law 927 = .ok (.aload_n 2, 1) := by decide +kernel
theorem dL_law_928 : decode cL_law 928 = .ok (.aload_n 0, 1) := by decide +kernel
theorem dL_law_929 : decode cL_law 929 = .ok (.iload_n 3, 1) := by decide +kernel
theorem dL_law_930 : decode cL_law 930 = .ok (.iconst 1, 1) := by decide +kernel
theorem dL_law_931 : decode cL_law 931 = .ok (.iadd, 1) := by decide +kernel
theorem dL_law_932 : decode cL_law 932 = .ok (.iaload, 1) := by decide +kernel
theorem dL_law_933 : decode cL_law 933 = .ok (.invokevirtual 127, 3) := by decide +kernel
theorem dL_law_936 : decode cL_law 936 = .ok (.if_icmp .eq 28, 3) := by decide +kernel
theorem dL_law_939 : decode cL_law 939 = .ok (.iconst 0, 1) := by decide +kernel
theorem dL_law_940 : decode cL_law 940 = .ok (.ireturn, 1) := by decide +kernel
theorem dL_law_941 : decode cL_law 941 = .ok (.aload_n 1, 1) := by decide +kernel
theorem dL_law_942 : decode cL_law 942 = .ok (.aload_n 0, 1) := by decide +kernel
theorem dL_law_943 : decode cL_law 943 = .ok (.iload_n 3, 1) := by decide +kernel
theorem dL_law_944 : decode cL_law 944 = .ok (.iconst 1, 1) := by decide +kernel
theorem dL_law_945 : decode cL_law 945 = .ok (.iadd, 1) := by decide +kernel
theorem dL_law_946 : decode cL_law 946 = .ok (.iaload, 1) := by decide +kernel
theorem dL_law_947 : decode cL_law 947 = .ok (.invokevirtual 128, 3) := by decide +kernel
theorem dL_law_950 : decode cL_law 950 = .ok (.aload_n 2, 1) := by decide +kernel
theorem dL_law_951 : decode cL_law 951 = .ok (.aload_n 0, 1) := by decide +kernel
theorem dL_law_952 : decode cL_law 952 = .ok (.iload_n 3, 1) := by decide +kernel
theorem dL_law_953 : decode cL_law 953 = .ok (.iconst 1, 1) := by decide +kernel
theorem dL_law_954 : decode cL_law 954 = .ok (.iadd, 1) := by decide +kernel
theorem dL_law_955 : decode cL_law 955 = .ok (.iaload, 1) := by decide +kernel
theorem dL_law_956 : decode cL_law 956 = .ok (.invokevirtual 131, 3) := by decide +kernel
theorem dL_law_959 : decode cL_law 959 = .ok (.if_icmp .eq 5, 3) := by decide +kernel
theorem dL_law_962 : decode cL_law 962 = .ok (.iconst 0, 1) := by decide +kernel
theorem dL_law_963 : decode cL_law 963 = .ok (.ireturn, 1) := by decide +kernel
theorem dL_law_964 : decode cL_law 964 = .ok (.iinc 3 4, 3) := by decide +kernel
theorem dL_law_967 : decode cL_law 967 = .ok (.goto (-949), 3) := by decide +kernel
theorem dL_law_970 : decode cL_law 970 = .ok (.iconst 1, 1) := by decide +kernel
theorem dL_law_971 : decode cL_law 971 = .ok (.ireturn, 1) := by decide +kernel
theorem dX0_init_0 : decode cX0_init 0 = .ok (.aload_n 0, 1) := by decide +kernel
theorem dX0_init_1 : decode cX0_init 1 = .ok (.invokespecial 3, 3) := by decide +kernel
theorem dX0_init_4 : decode cX0_init 4 = .ok (.aload_n 0, 1) := by decide +kernel
theorem dX0_init_5 : decode cX0_init 5 = .ok (.bipush 20, 2) := by decide +kernel
theorem dX0_init_7 : decode cX0_init 7 = .ok (.newarray .int, 2) := by decide +kernel
theorem dX0_init_9 : decode cX0_init 9 = .ok (.putfield 9, 3) := by decide +kernel
theorem dX0_init_12 : decode cX0_init 12 = .ok (.aload_n 0, 1) := by decide +kernel
theorem dX0_init_13 : decode cX0_init 13 = .ok (.bipush 20, 2) := by decide +kernel
theorem dX0_init_15 : decode cX0_init 15 = .ok (.newarray .int, 2) := by decide +kernel
theorem dX0_init_17 : decode cX0_init 17 = .ok (.putfield 15, 3) := by decide +kernel
theorem dX0_init_20 : decode cX0_init 20 = .ok (.aload_n 0, 1) := by decide +kernel
theorem dX0_init_21 : decode cX0_init 21 = .ok (.bipush 20, 2) := by decide +kernel
theorem dX0_init_23 : decode cX0_init 23 = .ok (.newarray .int, 2) := by decide +kernel
theorem dX0_init_25 : decode cX0_init 25 = .ok (.putfield 18, 3) := by decide +kernel
theorem dX0_init_28 : decode cX0_init 28 = .ok (.return_, 1) := by decide +kernel
theorem dX0_append_0 : decode cX0_append 0 = .ok (.aload_n 0, 1) := by decide +kernel
theorem dX0_append_1 : decode cX0_append 1 = .ok (.getfield 21, 3) := by decide +kernel
theorem dX0_append_4 : decode cX0_append 4 = .ok (.bipush 20, 2) := by decide +kernel
theorem dX0_append_6 : decode cX0_append 6 = .ok (.if_icmp .ge 43, 3) := by decide +kernel
theorem dX0_append_9 : decode cX0_append 9 = .ok (.aload_n 0, 1) := by decide +kernel
theorem dX0_append_10 : decode cX0_append 10 = .ok (.getfield 9, 3) := by decide +kernel
theorem dX0_append_13 : decode cX0_append 13 = .ok (.aload_n 0, 1) := by decide +kernel
theorem dX0_append_14 : decode cX0_append 14 = .ok (.getfield 21, 3) := by decide +kernel
theorem dX0_append_17 : decode cX0_append 17 = .ok (.iload_n 1, 1) := by decide +kernel
theorem dX0_append_18 : decode cX0_append 18 = .ok (.iastore, 1) := by decide +kernel
theorem dX0_append_19 : decode cX0_append 19 = .ok (.aload_n 0, 1) := by decide +kernel
theorem dX0_append_20 : decode cX0_append 20 = .ok (.getfield 15, 3) := by decide +kernel
theorem dX0_append_23 : decode cX0_append 23 = .ok (.aload_n 0, 1) := by decide +kernel
theorem dX0_append_24 : decode cX0_append 24 = .ok (.getfield 21, 3) := by decide +kernel
theorem dX0_append_27 : decode cX0_append 27 = .ok (.iload_n 2, 1) := by decide +kernel
theorem dX0_append_28 : decode cX0_append 28 = .ok (.iastore, 1) := by decide +kernel
theorem dX0_append_29 : decode cX0_append 29 = .ok (.aload_n 0, 1) := by decide +kernel
theorem dX0_append_30 : decode cX0_append 30 = .ok (.getfield 18, 3) := by decide +kernel
theorem dX0_append_33 : decode cX0_append 33 = .ok (.aload_n 0, 1) := by decide +kernel
theorem dX0_append_34 : decode cX0_append 34 = .ok (.getfield 21, 3) := by decide +kernel
theorem dX0_append_37 : decode cX0_append 37 = .ok (.iload_n 3, 1) := by decide +kernel
theorem dX0_append_38 : decode cX0_append 38 = .ok (.iastore, 1) := by decide +kernel
theorem dX0_append_39 : decode cX0_append 39 = .ok (.aload_n 0, 1) := by decide +kernel
theorem dX0_append_40 : decode cX0_append 40 = .ok (.dup, 1) := by decide +kernel
theorem dX0_append_41 : decode cX0_append 41 = .ok (.getfield 21, 3) := by decide +kernel
theorem dX0_append_44 : decode cX0_append 44 = .ok (.iconst 1, 1) := by decide +kernel
theorem dX0_append_45 : decode cX0_append 45 = .ok (.iadd, 1) := by decide +kernel
theorem dX0_append_46 : decode cX0_append 46 = .ok (.putfield 21, 3) := by decide +kernel
theorem dX0_append_49 : decode cX0_append 49 = .ok (.return_, 1) := by decide +kernel
theorem dX1_init_0 : decode cX1_init 0 = .ok (.aload_n 0, 1) := by decide +kernel
theorem dX1_init_1 : decode cX1_init 1 = .ok (.invokespecial 3, 3) := by decide +kernel
theorem dX1_init_4 : decode cX1_init 4 = .ok (.aload_n 0, 1) := by decide +kernel
theorem dX1_init_5 : decode cX1_init 5 = .ok (.aload_n 1, 1) := by decide +kernel
theorem dX1_init_6 : decode cX1_init 6 = .ok (.putfield 9, 3) := by decide +kernel
theorem dX1_init_9 : decode cX1_init 9 = .ok (.aload_n 0, 1) := by decide +kernel
theorem dX1_init_10 : decode cX1_init 10 = .ok (.aload_n 2, 1) := by decide +kernel
theorem dX1_init_11 : decode cX1_init 11 = .ok (.putfield 15, 3) := by decide +kernel
theorem dX1_init_14 : decode cX1_init 14 = .ok (.return_, 1) := by decide +kernel
theorem dX1_tallOf_0 : decode cX1_tallOf 0 = .ok (.aload_n 0, 1) := by decide +kernel
theorem dX1_tallOf_1 : decode cX1_tallOf 1 = .ok (.getfield 9, 3) := by decide +kernel
theorem dX1_tallOf_4 : decode cX1_tallOf 4 = .ok (.aload_n 0, 1) := by decide +kernel
theorem dX1_tallOf_5 : decode cX1_tallOf 5 = .ok (.getfield 15, 3) := by decide +kernel
theorem dX1_tallOf_8 : decode cX1_tallOf 8 = .ok (.getfield 19, 3) := by decide +kernel
theorem dX1_tallOf_11 : decode cX1_tallOf 11 = .ok (.iload_n 1, 1) := by decide +kernel
theorem dX1_tallOf_12 : decode cX1_tallOf 12 = .ok (.iaload, 1) := by decide +kernel
theorem dX1_tallOf_13 : decode cX1_tallOf 13 = .ok (.aload_n 0, 1) := by decide +kernel
theorem dX1_tallOf_14 : decode cX1_tallOf 14 = .ok (.getfield 15, 3) := by decide +kernel
theorem dX1_tallOf_17 : decode cX1_tallOf 17 = .ok (.getfield 25, 3) := by decide +kernel
theorem dX1_tallOf_20 : decode cX1_tallOf 20 = .ok (.iload_n 1, 1) := by decide +kernel
theorem dX1_tallOf_21 : decode cX1_tallOf 21 = .ok (.iaload, 1) := by decide +kernel
theorem dX1_tallOf_22 : decode cX1_tallOf 22 = .ok (.invokevirtual 28, 3) := by decide +kernel
theorem dX1_tallOf_25 : decode cX1_tallOf 25 = .ok (.aload_n 0, 1) := by decide +kernel
theorem dX1_tallOf_26 : decode cX1_tallOf 26 = .ok (.getfield 15, 3) := by decide +kernel
theorem dX1_tallOf_29 : decode cX1_tallOf 29 = .ok (.getfield 34, 3) := by decide +kernel
theorem dX1_tallOf_32 : decode cX1_tallOf 32 = .ok (.iload_n 1, 1) := by decide +kernel
theorem dX1_tallOf_33 : decode cX1_tallOf 33 = .ok (.iaload, 1) := by decide +kernel
theorem dX1_tallOf_34 : decode cX1_tallOf 34 = .ok (.iadd, 1) := by decide +kernel
theorem dX1_tallOf_35 : decode cX1_tallOf 35 = .ok (.ireturn, 1) := by decide +kernel
theorem dX1_headOf_0 : decode cX1_headOf 0 = .ok (.aload_n 0, 1) := by decide +kernel
theorem dX1_headOf_1 : decode cX1_headOf 1 = .ok (.getfield 9, 3) := by decide +kernel
theorem dX1_headOf_4 : decode cX1_headOf 4 = .ok (.aload_n 0, 1) := by decide +kernel
theorem dX1_headOf_5 : decode cX1_headOf 5 = .ok (.getfield 15, 3) := by decide +kernel
theorem dX1_headOf_8 : decode cX1_headOf 8 = .ok (.getfield 19, 3) := by decide +kernel
theorem dX1_headOf_11 : decode cX1_headOf 11 = .ok (.iload_n 1, 1) := by decide +kernel
theorem dX1_headOf_12 : decode cX1_headOf 12 = .ok (.iaload, 1) := by decide +kernel
theorem dX1_headOf_13 : decode cX1_headOf 13 = .ok (.aload_n 0, 1) := by decide +kernel
theorem dX1_headOf_14 : decode cX1_headOf 14 = .ok (.getfield 15, 3) := by decide +kernel
theorem dX1_headOf_17 : decode cX1_headOf 17 = .ok (.getfield 25, 3) := by decide +kernel
theorem dX1_headOf_20 : decode cX1_headOf 20 = .ok (.iload_n 1, 1) := by decide +kernel
theorem dX1_headOf_21 : decode cX1_headOf 21 = .ok (.iaload, 1) := by decide +kernel
theorem dX1_headOf_22 : decode cX1_headOf 22 = .ok (.invokevirtual 28, 3) := by decide +kernel
theorem dX1_headOf_25 : decode cX1_headOf 25 = .ok (.istore_n 2, 1) := by decide +kernel
theorem dX1_headOf_26 : decode cX1_headOf 26 = .ok (.iload_n 2, 1) := by decide +kernel
theorem dX1_headOf_27 : decode cX1_headOf 27 = .ok (.aload_n 0, 1) := by decide +kernel
theorem dX1_headOf_28 : decode cX1_headOf 28 = .ok (.getfield 15, 3) := by decide +kernel
theorem dX1_headOf_31 : decode cX1_headOf 31 = .ok (.getfield 34, 3) := by decide +kernel
theorem dX1_headOf_34 : decode cX1_headOf 34 = .ok (.iload_n 1, 1) := by decide +kernel
theorem dX1_headOf_35 : decode cX1_headOf 35 = .ok (.iaload, 1) := by decide +kernel
theorem dX1_headOf_36 : decode cX1_headOf 36 = .ok (.iadd, 1) := by decide +kernel
theorem dX1_headOf_37 : decode cX1_headOf 37 = .ok (.aload_n 0, 1) := by decide +kernel
theorem dX1_headOf_38 : decode cX1_headOf 38 = .ok (.getfield 15, 3) := by decide +kernel
theorem dX1_headOf_41 : decode cX1_headOf 41 = .ok (.getfield 37, 3) := by decide +kernel
theorem dX1_headOf_44 : decode cX1_headOf 44 = .ok (.iload_n 1, 1) := by decide +kernel
theorem dX1_headOf_45 : decode cX1_headOf 45 = .ok (.iaload, 1) := by decide +kernel
theorem dX1_headOf_46 : decode cX1_headOf 46 = .ok (.isub, 1) := by decide +kernel
theorem dX1_headOf_47 : decode cX1_headOf 47 = .ok (.ireturn, 1) := by decide +kernel
theorem dX1_excessOf_0 : decode cX1_excessOf 0 = .ok (.aload_n 0, 1) := by decide +kernel
theorem dX1_excessOf_1 : decode cX1_excessOf 1 = .ok (.getfield 15, 3) := by decide +kernel
theorem dX1_excessOf_4 : decode cX1_excessOf 4 = .ok (.iload_n 2, 1) := by decide +kernel
theorem dX1_excessOf_5 : decode cX1_excessOf 5 = .ok (.aload_n 0, 1) := by decide +kernel
theorem dX1_excessOf_6 : decode cX1_excessOf 6 = .ok (.getfield 15, 3) := by decide +kernel
theorem dX1_excessOf_9 : decode cX1_excessOf 9 = .ok (.getfield 40, 3) := by decide +kernel
theorem dX1_excessOf_12 : decode cX1_excessOf 12 = .ok (.iload_n 1, 1) := by decide +kernel
theorem dX1_excessOf_13 : decode cX1_excessOf 13 = .ok (.iaload, 1) := by decide +kernel
theorem dX1_excessOf_14 : decode cX1_excessOf 14 = .ok (.invokevirtual 43, 3) := by decide +kernel
theorem dX1_excessOf_17 : decode cX1_excessOf 17 = .ok (.istore_n 3, 1) := by decide +kernel
theorem dX1_excessOf_18 : decode cX1_excessOf 18 = .ok (.aload_n 0, 1) := by decide +kernel
theorem dX1_excessOf_19 : decode cX1_excessOf 19 = .ok (.getfield 15, 3) := by decide +kernel
theorem dX1_excessOf_22 : decode cX1_excessOf 22 = .ok (.getfield 46, 3) := by decide +kernel
theorem dX1_excessOf_25 : decode cX1_excessOf 25 = .ok (.iconst 1, 1) := by decide +kernel
theorem dX1_excessOf_26 : decode cX1_excessOf 26 = .ok (.if_icmp .eq 40, 3) := by decide +kernel
theorem dX1_excessOf_29 : decode cX1_excessOf 29 = .ok (.aload_n 0, 1) := by decide +kernel
theorem dX1_excessOf_30 : decode cX1_excessOf 30 = .ok (.getfield 15, 3) := by decide +kernel
theorem dX1_excessOf_33 : decode cX1_excessOf 33 = .ok (.iload_n 3, 1) := by decide +kernel
theorem dX1_excessOf_34 : decode cX1_excessOf 34 = .ok (.invokevirtual 50, 3) := by decide +kernel
theorem dX1_excessOf_37 : decode cX1_excessOf 37 = .ok (.istore 4, 2) := by decide +kernel
theorem dX1_excessOf_39 : decode cX1_excessOf 39 = .ok (.iload 4, 2) := by decide +kernel
theorem dX1_excessOf_41 : decode cX1_excessOf 41 = .ok (.iconst (-1), 1) := by decide +kernel
theorem dX1_excessOf_42 : decode cX1_excessOf 42 = .ok (.if_icmp .ne 7, 3) := by decide +kernel
theorem dX1_excessOf_45 : decode cX1_excessOf 45 = .ok (.iconst 0, 1) := by decide +kernel
theorem dX1_excessOf_46 : decode cX1_excessOf 46 = .ok (.goto 19, 3) := by decide +kernel
theorem dX1_excessOf_49 : decode cX1_excessOf 49 = .ok (.iconst 0, 1) := by decide +kernel
theorem dX1_excessOf_50 : decode cX1_excessOf 50 = .ok (.aload_n 0, 1) := by decide +kernel
theorem dX1_excessOf_51 : decode cX1_excessOf 51 = .ok (.iload_n 1, 1) := by decide +kernel
theorem dX1_excessOf_52 : decode cX1_excessOf 52 = .ok (.invokevirtual 54, 3) := by decide +kernel
theorem dX1_excessOf_55 : decode cX1_excessOf 55 = .ok (.aload_n 0, 1) := by decide +kernel
theorem dX1_excessOf_56 : decode cX1_excessOf 56 = .ok (.iload 4, 2) := by decide +kernel
theorem dX1_excessOf_58 : decode cX1_excessOf 58 = .ok (.invokevirtual 54, 3) := by decide +kernel
theorem dX1_excessOf_61 : decode cX1_excessOf 61 = .ok (.isub, 1) := by decide +kernel
theorem dX1_excessOf_62 : decode cX1_excessOf 62 = .ok (.invokestatic 57, 3) := by decide +kernel
theorem dX1_excessOf_65 : decode cX1_excessOf 65 = .ok (.ireturn, 1) := by decide +kernel
theorem dX1_excessOf_66 : decode cX1_excessOf 66 = .ok (.iconst 0, 1) := by decide +kernel
theorem dX1_excessOf_67 : decode cX1_excessOf 67 = .ok (.istore 4, 2) := by decide +kernel
theorem dX1_excessOf_69 : decode cX1_excessOf 69 = .ok (.iconst 0, 1) := by decide +kernel
theorem dX1_excessOf_70 : decode cX1_excessOf 70 = .ok (.istore 5, 2) := by decide +kernel
theorem dX1_excessOf_72 : decode cX1_excessOf 72 = .ok (.iload 5, 2) := by decide +kernel
theorem dX1_excessOf_74 : decode cX1_excessOf 74 = .ok (.aload_n 0, 1) := by decide +kernel
theorem dX1_excessOf_75 : decode cX1_excessOf 75 = .ok (.getfield 9, 3) := by decide +kernel
theorem dX1_excessOf_78 : decode cX1_excessOf 78 = .ok (.getfield 62, 3) := by decide +kernel
theorem dX1_excessOf_81 : decode cX1_excessOf 81 = .ok (.if_icmp .ge 37, 3) := by decide +kernel
theorem dX1_excessOf_84 : decode cX1_excessOf 84 = .ok (.iload_n 3, 1) := by decide +kernel
theorem dX1_excessOf_85 : decode cX1_excessOf 85 = .ok (.iload 5, 2) := by decide +kernel
theorem dX1_excessOf_87 : decode cX1_excessOf 87 = .ok (.ishr, 1) := by decide +kernel
theorem dX1_excessOf_88 : decode cX1_excessOf 88 = .ok (.iconst 1, 1) := by decide +kernel
theorem dX1_excessOf_89 : decode cX1_excessOf 89 = .ok (.iand, 1) := by decide +kernel
theorem dX1_excessOf_90 : decode cX1_excessOf 90 = .ok (.ifCond .eq 22, 3) := by decide +kernel
theorem dX1_excessOf_93 : decode cX1_excessOf 93 = .ok (.iload 4, 2) := by decide +kernel
theorem dX1_excessOf_95 : decode cX1_excessOf 95 = .ok (.aload_n 0, 1) := by decide +kernel
theorem dX1_excessOf_96 : decode cX1_excessOf 96 = .ok (.iload_n 1, 1) := by decide +kernel
theorem dX1_excessOf_97 : decode cX1_excessOf 97 = .ok (.invokevirtual 54, 3) := by decide +kernel
theorem dX1_excessOf_100 : decode cX1_excessOf 100 = .ok (.aload_n 0, 1) := by decide +kernel
theorem dX1_excessOf_101 : decode cX1_excessOf 101 = .ok (.iload 5, 2) := by decide +kernel
theorem dX1_excessOf_103 : decode cX1_excessOf 103 = .ok (.invokevirtual 54, 3) := by decide +kernel
theorem dX1_excessOf_106 : decode cX1_excessOf 106 = .ok (.isub, 1) := by decide +kernel
theorem dX1_excessOf_107 : decode cX1_excessOf 107 = .ok (.invokestatic 57, 3) := by decide +kernel
theorem dX1_excessOf_110 : decode cX1_excessOf 110 = .ok (.istore 4, 2) := by decide +kernel
theorem dX1_excessOf_112 : decode cX1_excessOf 112 = .ok (.iinc 5 1, 3) := by decide +kernel
theorem dX1_excessOf_115 : decode cX1_excessOf 115 = .ok (.goto (-43), 3) := by decide +kernel
theorem dX1_excessOf_118 : decode cX1_excessOf 118 = .ok (.iload 4, 2) := by decide +kernel
theorem dX1_excessOf_120 : decode cX1_excessOf 120 = .ok (.ireturn, 1) := by decide +kernel
theorem dX1_firstTooHigh_0 : decode cX1_firstTooHigh 0 = .ok (.iconst 0, 1) := by decide +kernel
theorem dX1_firstTooHigh_1 : decode cX1_firstTooHigh 1 = .ok (.istore_n 2, 1) := by decide +kernel
theorem dX1_firstTooHigh_2 : decode cX1_firstTooHigh 2 = .ok (.iload_n 2, 1) := by decide +kernel
theorem dX1_firstTooHigh_3 : decode cX1_firstTooHigh 3 = .ok (.aload_n 0, 1) := by decide +kernel
theorem dX1_firstTooHigh_4 : decode cX1_firstTooHigh 4 = .ok (.getfield 9, 3) := by decide +kernel
theorem dX1_firstTooHigh_7 : decode cX1_firstTooHigh 7 = .ok (.getfield 62, 3) := by decide +kernel
theorem dX1_firstTooHigh_10 : decode cX1_firstTooHigh 10 = .ok (.if_icmp .ge 33, 3) := by decide +kernel
theorem dX1_firstTooHigh_13 : decode cX1_firstTooHigh 13 = .ok (.aload_n 0, 1) := by decide +kernel
theorem dX1_firstTooHigh_14 : decode cX1_firstTooHigh 14 = .ok (.getfield 15, 3) := by decide +kernel
theorem dX1_firstTooHigh_17 : decode cX1_firstTooHigh 17 = .ok (.getfield 19, 3) := by decide +kernel
theorem dX1_firstTooHigh_20 : decode cX1_firstTooHigh 20 = .ok (.iload_n 2, 1) := by decide +kernel
theorem dX1_firstTooHigh_21 : decode cX1_firstTooHigh 21 = .ok (.iaload, 1) := by decide +kernel
theorem dX1_firstTooHigh_22 : decode cX1_firstTooHigh 22 = .ok (.iload_n 1, 1) := by decide +kernel
theorem dX1_firstTooHigh_23 : decode cX1_firstTooHigh 23 = .ok (.if_icmp .ne 14, 3) := by decide +kernel
theorem dX1_firstTooHigh_26 : decode cX1_firstTooHigh 26 = .ok (.aload_n 0, 1) := by decide +kernel
theorem dX1_firstTooHigh_27 : decode cX1_firstTooHigh 27 = .ok (.iload_n 2, 1) := by decide +kernel
theorem dX1_firstTooHigh_28 : decode cX1_firstTooHigh 28 = .ok (.iload_n 1, 1) := by decide +kernel
theorem dX1_firstTooHigh_29 : decode cX1_firstTooHigh 29 = .ok (.invokevirtual 65, 3) := by decide +kernel
theorem dX1_firstTooHigh_32 : decode cX1_firstTooHigh 32 = .ok (.ifCond .le 5, 3) := by decide +kernel
theorem dX1_firstTooHigh_35 : decode cX1_firstTooHigh 35 = .ok (.iload_n 2, 1) := by decide +kernel
theorem dX1_firstTooHigh_36 : decode cX1_firstTooHigh 36 = .ok (.ireturn, 1) := by decide +kernel
theorem dX1_firstTooHigh_37 : decode cX1_firstTooHigh 37 = .ok (.iinc 2 1, 3) := by decide +kernel
theorem dX1_firstTooHigh_40 : decode cX1_firstTooHigh 40 = .ok (.goto (-38), 3) := by decide +kernel
theorem dX1_firstTooHigh_43 : decode cX1_firstTooHigh 43 = .ok (.iconst (-1), 1) := by decide +kernel
theorem dX1_firstTooHigh_44 : decode cX1_firstTooHigh 44 = .ok (.ireturn, 1) := by decide +kernel
theorem dX1_roomsWithFault_0 : decode cX1_roomsWithFault 0 = .ok (.iconst 0, 1) := by decide +kernel
theorem dX1_roomsWithFault_1 : decode cX1_roomsWithFault 1 = .ok (.istore_n 1, 1) := by decide +kernel
theorem dX1_roomsWithFault_2 : decode cX1_roomsWithFault 2 = .ok (.iconst 0, 1) := by decide +kernel
theorem dX1_roomsWithFault_3 : decode cX1_roomsWithFault 3 = .ok (.istore_n 2, 1) := by decide +kernel
theorem dX1_roomsWithFault_4 : decode cX1_roomsWithFault 4 = .ok (.iload_n 2, 1) := by decide +kernel
theorem dX1_roomsWithFault_5 : decode cX1_roomsWithFault 5 = .ok (.aload_n 0, 1) := by decide +kernel
theorem dX1_roomsWithFault_6 : decode cX1_roomsWithFault 6 = .ok (.getfield 9, 3) := by decide +kernel
theorem dX1_roomsWithFault_9 : decode cX1_roomsWithFault 9 = .ok (.getfield 68, 3) := by decide +kernel
theorem dX1_roomsWithFault_12 : decode cX1_roomsWithFault 12 = .ok (.if_icmp .ge 24, 3) := by decide +kernel
theorem dX1_roomsWithFault_15 : decode cX1_roomsWithFault 15 = .ok (.aload_n 0, 1) := by decide +kernel
theorem dX1_roomsWithFault_16 : decode cX1_roomsWithFault 16 = .ok (.iload_n 2, 1) := by decide +kernel
theorem dX1_roomsWithFault_17 : decode cX1_roomsWithFault 17 = .ok (.invokevirtual 71, 3) := by decide +kernel
theorem dX1_roomsWithFault_20 : decode cX1_roomsWithFault 20 = .ok (.iconst (-1), 1) := by decide +kernel
theorem dX1_roomsWithFault_21 : decode cX1_roomsWithFault 21 = .ok (.if_icmp .eq 9, 3) := by decide +kernel
theorem dX1_roomsWithFault_24 : decode cX1_roomsWithFault 24 = .ok (.iload_n 1, 1) := by decide +kernel
theorem dX1_roomsWithFault_25 : decode cX1_roomsWithFault 25 = .ok (.iconst 1, 1) := by decide +kernel
theorem dX1_roomsWithFault_26 : decode cX1_roomsWithFault 26 = .ok (.iload_n 2, 1) := by decide +kernel
theorem dX1_roomsWithFault_27 : decode cX1_roomsWithFault 27 = .ok (.ishl, 1) := by decide +kernel
theorem dX1_roomsWithFault_28 : decode cX1_roomsWithFault 28 = .ok (.ior, 1) := by decide +kernel
theorem dX1_roomsWithFault_29 : decode cX1_roomsWithFault 29 = .ok (.istore_n 1, 1) := by decide +kernel
theorem dX1_roomsWithFault_30 : decode cX1_roomsWithFault 30 = .ok (.iinc 2 1, 3) := by decide +kernel
theorem dX1_roomsWithFault_33 : decode cX1_roomsWithFault 33 = .ok (.goto (-29), 3) := by decide +kernel
theorem dX1_roomsWithFault_36 : decode cX1_roomsWithFault 36 = .ok (.iload_n 1, 1) := by decide +kernel
theorem dX1_roomsWithFault_37 : decode cX1_roomsWithFault 37 = .ok (.ireturn, 1) := by decide +kernel
theorem dX1_allBow_0 : decode cX1_allBow 0 = .ok (.aload_n 0, 1) := by decide +kernel
theorem dX1_allBow_1 : decode cX1_allBow 1 = .ok (.getfield 15, 3) := by decide +kernel
theorem dX1_allBow_4 : decode cX1_allBow 4 = .ok (.iload_n 1, 1) := by decide +kernel
theorem dX1_allBow_5 : decode cX1_allBow 5 = .ok (.invokevirtual 74, 3) := by decide +kernel
theorem dX1_allBow_8 : decode cX1_allBow 8 = .ok (.istore_n 2, 1) := by decide +kernel
theorem dX1_allBow_9 : decode cX1_allBow 9 = .ok (.aload_n 0, 1) := by decide +kernel
theorem dX1_allBow_10 : decode cX1_allBow 10 = .ok (.getfield 15, 3) := by decide +kernel
theorem dX1_allBow_13 : decode cX1_allBow 13 = .ok (.iload_n 2, 1) := by decide +kernel
theorem dX1_allBow_14 : decode cX1_allBow 14 = .ok (.invokevirtual 50, 3) := by decide +kernel
theorem dX1_allBow_17 : decode cX1_allBow 17 = .ok (.istore_n 3, 1) := by decide +kernel
theorem dX1_allBow_18 : decode cX1_allBow 18 = .ok (.iload_n 3, 1) := by decide +kernel
theorem dX1_allBow_19 : decode cX1_allBow 19 = .ok (.iconst (-1), 1) := by decide +kernel
theorem dX1_allBow_20 : decode cX1_allBow 20 = .ok (.if_icmp .ne 5, 3) := by decide +kernel
theorem dX1_allBow_23 : decode cX1_allBow 23 = .ok (.iconst 0, 1) := by decide +kernel
theorem dX1_allBow_24 : decode cX1_allBow 24 = .ok (.ireturn, 1) := by decide +kernel
theorem dX1_allBow_25 : decode cX1_allBow 25 = .ok (.aload_n 0, 1) := by decide +kernel
theorem dX1_allBow_26 : decode cX1_allBow 26 = .ok (.getfield 15, 3) := by decide +kernel
theorem dX1_allBow_29 : decode cX1_allBow 29 = .ok (.getfield 37, 3) := by decide +kernel
theorem dX1_allBow_32 : decode cX1_allBow 32 = .ok (.iload_n 3, 1) := by decide +kernel
theorem dX1_allBow_33 : decode cX1_allBow 33 = .ok (.iconst 0, 1) := by decide +kernel
theorem dX1_allBow_34 : decode cX1_allBow 34 = .ok (.iastore, 1) := by decide +kernel
theorem dX1_allBow_35 : decode cX1_allBow 35 = .ok (.aload_n 0, 1) := by decide +kernel
theorem dX1_allBow_36 : decode cX1_allBow 36 = .ok (.iload_n 3, 1) := by decide +kernel
theorem dX1_allBow_37 : decode cX1_allBow 37 = .ok (.invokevirtual 77, 3) := by decide +kernel
theorem dX1_allBow_40 : decode cX1_allBow 40 = .ok (.istore 4, 2) := by decide +kernel
theorem dX1_allBow_42 : decode cX1_allBow 42 = .ok (.iconst 0, 1) := by decide +kernel
theorem dX1_allBow_43 : decode cX1_allBow 43 = .ok (.istore 5, 2) := by decide +kernel
theorem dX1_allBow_45 : decode cX1_allBow 45 = .ok (.iconst 1, 1) := by decide +kernel
theorem dX1_allBow_46 : decode cX1_allBow 46 = .ok (.istore 6, 2) := by decide +kernel
theorem dX1_allBow_48 : decode cX1_allBow 48 = .ok (.iload 6, 2) := by decide +kernel
theorem dX1_allBow_50 : decode cX1_allBow 50 = .ok (.bipush 6, 2) := by decide +kernel
theorem dX1_allBow_52 : decode cX1_allBow 52 = .ok (.if_icmp .ge 106, 3) := by decide +kernel
theorem dX1_allBow_55 : decode cX1_allBow 55 = .ok (.iload_n 2, 1) := by decide +kernel
theorem dX1_allBow_56 : decode cX1_allBow 56 = .ok (.iconst 1, 1) := by decide +kernel
theorem dX1_allBow_57 : decode cX1_allBow 57 = .ok (.iload_n 3, 1) := by decide +kernel
theorem dX1_allBow_58 : decode cX1_allBow 58 = .ok (.ishl, 1) := by decide +kernel
theorem dX1_allBow_59 : decode cX1_allBow 59 = .ok (.iconst (-1), 1) := by decide +kernel
theorem dX1_allBow_60 : decode cX1_allBow 60 = .ok (.ixor, 1) := by decide +kernel
theorem dX1_allBow_61 : decode cX1_allBow 61 = .ok (.iand, 1) := by decide +kernel
theorem dX1_allBow_62 : decode cX1_allBow 62 = .ok (.istore_n 2, 1) := by decide +kernel
theorem dX1_allBow_63 : decode cX1_allBow 63 = .ok (.aload_n 0, 1) := by decide +kernel
theorem dX1_allBow_64 : decode cX1_allBow 64 = .ok (.getfield 15, 3) := by decide +kernel
theorem dX1_allBow_67 : decode cX1_allBow 67 = .ok (.iload_n 2, 1) := by decide +kernel
theorem dX1_allBow_68 : decode cX1_allBow 68 = .ok (.invokevirtual 50, 3) := by decide +kernel
theorem dX1_allBow_71 : decode cX1_allBow 71 = .ok (.istore_n 3, 1) := by decide +kernel
theorem dX1_allBow_72 : decode cX1_allBow 72 = .ok (.iload_n 3, 1) := by decide +kernel
theorem dX1_allBow_73 : decode cX1_allBow 73 = .ok (.iconst (-1), 1) := by decide +kernel
theorem dX1_allBow_74 : decode cX1_allBow 74 = .ok (.if_icmp .ne 6, 3) := by decide +kernel
theorem dX1_allBow_77 : decode cX1_allBow 77 = .ok (.goto 81, 3) := by decide +kernel
theorem dX1_allBow_80 : decode cX1_allBow 80 = .ok (.iconst 0, 1) := by decide +kernel
theorem dX1_allBow_81 : decode cX1_allBow 81 = .ok (.aload_n 0, 1) := by decide +kernel
theorem dX1_allBow_82 : decode cX1_allBow 82 = .ok (.iload_n 3, 1) := by decide +kernel
theorem dX1_allBow_83 : decode cX1_allBow 83 = .ok (.invokevirtual 77, 3) := by decide +kernel
theorem dX1_allBow_86 : decode cX1_allBow 86 = .ok (.iload 4, 2) := by decide +kernel
theorem dX1_allBow_88 : decode cX1_allBow 88 = .ok (.isub, 1) := by decide +kernel
theorem dX1_allBow_89 : decode cX1_allBow 89 = .ok (.invokestatic 57, 3) := by decide +kernel
theorem dX1_allBow_92 : decode cX1_allBow 92 = .ok (.istore 7, 2) := by decide +kernel
theorem dX1_allBow_94 : decode cX1_allBow 94 = .ok (.aload_n 0, 1) := by decide +kernel
theorem dX1_allBow_95 : decode cX1_allBow 95 = .ok (.getfield 15, 3) := by decide +kernel
theorem dX1_allBow_98 : decode cX1_allBow 98 = .ok (.getfield 37, 3) := by decide +kernel
theorem dX1_allBow_101 : decode cX1_allBow 101 = .ok (.iload_n 3, 1) := by decide +kernel
theorem dX1_allBow_102 : decode cX1_allBow 102 = .ok (.iload 7, 2) := by decide +kernel
theorem dX1_allBow_104 : decode cX1_allBow 104 = .ok (.aload_n 0, 1) := by decide +kernel
theorem dX1_allBow_105 : decode cX1_allBow 105 = .ok (.getfield 9, 3) := by decide +kernel
theorem dX1_allBow_108 : decode cX1_allBow 108 = .ok (.getfield 80, 3) := by decide +kernel
theorem dX1_allBow_111 : decode cX1_allBow 111 = .ok (.iload_n 3, 1) := by decide +kernel
theorem dX1_allBow_112 : decode cX1_allBow 112 = .ok (.iaload, 1) := by decide +kernel
theorem dX1_allBow_113 : decode cX1_allBow 113 = .ok (.invokestatic 83, 3) := by decide +kernel
theorem dX1_allBow_116 : decode cX1_allBow 116 = .ok (.iastore, 1) := by decide +kernel
theorem dX1_allBow_117 : decode cX1_allBow 117 = .ok (.iload 7, 2) := by decide +kernel
theorem dX1_allBow_119 : decode cX1_allBow 119 = .ok (.aload_n 0, 1) := by decide +kernel
theorem dX1_allBow_120 : decode cX1_allBow 120 = .ok (.getfield 9, 3) := by decide +kernel
theorem dX1_allBow_123 : decode cX1_allBow 123 = .ok (.getfield 80, 3) := by decide +kernel
theorem dX1_allBow_126 : decode cX1_allBow 126 = .ok (.iload_n 3, 1) := by decide +kernel
theorem dX1_allBow_127 : decode cX1_allBow 127 = .ok (.iaload, 1) := by decide +kernel
theorem dX1_allBow_128 : decode cX1_allBow 128 = .ok (.if_icmp .le 11, 3) := by decide +kernel
theorem dX1_allBow_131 : decode cX1_allBow 131 = .ok (.iload 5, 2) := by decide +kernel
theorem dX1_allBow_133 : decode cX1_allBow 133 = .ok (.iconst 1, 1) := by decide +kernel
theorem dX1_allBow_134 : decode cX1_allBow 134 = .ok (.iload_n 3, 1) := by decide +kernel
theorem dX1_allBow_135 : decode cX1_allBow 135 = .ok (.ishl, 1) := by decide +kernel
theorem dX1_allBow_136 : decode cX1_allBow 136 = .ok (.ior, 1) := by decide +kernel
theorem dX1_allBow_137 : decode cX1_allBow 137 = .ok (.istore 5, 2) := by decide +kernel
theorem dX1_allBow_139 : decode cX1_allBow 139 = .ok (.aload_n 0, 1) := by decide +kernel
theorem dX1_allBow_140 : decode cX1_allBow 140 = .ok (.iload 4, 2) := by decide +kernel
theorem dX1_allBow_142 : decode cX1_allBow 142 = .ok (.aload_n 0, 1) := by decide +kernel
theorem dX1_allBow_143 : decode cX1_allBow 143 = .ok (.iload_n 3, 1) := by decide +kernel
theorem dX1_allBow_144 : decode cX1_allBow 144 = .ok (.invokevirtual 54, 3) := by decide +kernel
theorem dX1_allBow_147 : decode cX1_allBow 147 = .ok (.invokevirtual 86, 3) := by decide +kernel
theorem dX1_allBow_150 : decode cX1_allBow 150 = .ok (.istore 4, 2) := by decide +kernel
theorem dX1_allBow_152 : decode cX1_allBow 152 = .ok (.iinc 6 1, 3) := by decide +kernel
theorem dX1_allBow_155 : decode cX1_allBow 155 = .ok (.goto (-107), 3) := by decide +kernel
theorem dX1_allBow_158 : decode cX1_allBow 158 = .ok (.iload 5, 2) := by decide +kernel
theorem dX1_allBow_160 : decode cX1_allBow 160 = .ok (.ireturn, 1) := by decide +kernel
theorem dX1_nextLimit_0 : decode cX1_nextLimit 0 = .ok (.aload_n 0, 1) := by decide +kernel
theorem dX1_nextLimit_1 : decode cX1_nextLimit 1 = .ok (.getfield 15, 3) := by decide +kernel
theorem dX1_nextLimit_4 : decode cX1_nextLimit 4 = .ok (.getfield 46, 3) := by decide +kernel
theorem dX1_nextLimit_7 : decode cX1_nextLimit 7 = .ok (.iconst 1, 1) := by decide +kernel
theorem dX1_nextLimit_8 : decode cX1_nextLimit 8 = .ok (.if_icmp .ne 11, 3) := by decide +kernel
theorem dX1_nextLimit_11 : decode cX1_nextLimit 11 = .ok (.iload_n 1, 1) := by decide +kernel
theorem dX1_nextLimit_12 : decode cX1_nextLimit 12 = .ok (.iload_n 2, 1) := by decide +kernel
theorem dX1_nextLimit_13 : decode cX1_nextLimit 13 = .ok (.invokestatic 83, 3) := by decide +kernel
theorem dX1_nextLimit_16 : decode cX1_nextLimit 16 = .ok (.goto 4, 3) := by decide +kernel
theorem dX1_nextLimit_19 : decode cX1_nextLimit 19 = .ok (.iload_n 1, 1) := by decide +kernel
theorem dX1_nextLimit_20 : decode cX1_nextLimit 20 = .ok (.ireturn, 1) := by decide +kernel
theorem dX1_passYear_0 : decode cX1_passYear 0 = .ok (.iconst 0, 1) := by decide +kernel
theorem dX1_passYear_1 : decode cX1_passYear 1 = .ok (.istore_n 1, 1) := by decide +kernel
theorem dX1_passYear_2 : decode cX1_passYear 2 = .ok (.iload_n 1, 1) := by decide +kernel
theorem dX1_passYear_3 : decode cX1_passYear 3 = .ok (.aload_n 0, 1) := by decide +kernel
theorem dX1_passYear_4 : decode cX1_passYear 4 = .ok (.getfield 9, 3) := by decide +kernel
theorem dX1_passYear_7 : decode cX1_passYear 7 = .ok (.getfield 62, 3) := by decide +kernel
theorem dX1_passYear_10 : decode cX1_passYear 10 = .ok (.if_icmp .ge 69, 3) := by decide +kernel
theorem dX1_passYear_13 : decode cX1_passYear 13 = .ok (.aload_n 0, 1) := by decide +kernel
theorem dX1_passYear_14 : decode cX1_passYear 14 = .ok (.getfield 15, 3) := by decide +kernel
theorem dX1_passYear_17 : decode cX1_passYear 17 = .ok (.getfield 40, 3) := by decide +kernel
theorem dX1_passYear_20 : decode cX1_passYear 20 = .ok (.iload_n 1, 1) := by decide +kernel
theorem dX1_passYear_21 : decode cX1_passYear 21 = .ok (.iaload, 1) := by decide +kernel
theorem dX1_passYear_22 : decode cX1_passYear 22 = .ok (.bipush 20, 2) := by decide +kernel
theorem dX1_passYear_24 : decode cX1_passYear 24 = .ok (.if_icmp .ge 36, 3) := by decide +kernel
theorem dX1_passYear_27 : decode cX1_passYear 27 = .ok (.aload_n 0, 1) := by decide +kernel
theorem dX1_passYear_28 : decode cX1_passYear 28 = .ok (.getfield 15, 3) := by decide +kernel
theorem dX1_passYear_31 : decode cX1_passYear 31 = .ok (.getfield 34, 3) := by decide +kernel
theorem dX1_passYear_34 : decode cX1_passYear 34 = .ok (.iload_n 1, 1) := by decide +kernel
theorem dX1_passYear_35 : decode cX1_passYear 35 = .ok (.bipush 90, 2) := by decide +kernel
theorem dX1_passYear_37 : decode cX1_passYear 37 = .ok (.aload_n 0, 1) := by decide +kernel
theorem dX1_passYear_38 : decode cX1_passYear 38 = .ok (.getfield 15, 3) := by decide +kernel
theorem dX1_passYear_41 : decode cX1_passYear 41 = .ok (.getfield 34, 3) := by decide +kernel
theorem dX1_passYear_44 : decode cX1_passYear 44 = .ok (.iload_n 1, 1) := by decide +kernel
theorem dX1_passYear_45 : decode cX1_passYear 45 = .ok (.iaload, 1) := by decide +kernel
theorem dX1_passYear_46 : decode cX1_passYear 46 = .ok (.aload_n 0, 1) := by decide +kernel
theorem dX1_passYear_47 : decode cX1_passYear 47 = .ok (.getfield 9, 3) := by decide +kernel
theorem dX1_passYear_50 : decode cX1_passYear 50 = .ok (.getfield 89, 3) := by decide +kernel
theorem dX1_passYear_53 : decode cX1_passYear 53 = .ok (.iload_n 1, 1) := by decide +kernel
theorem dX1_passYear_54 : decode cX1_passYear 54 = .ok (.iaload, 1) := by decide +kernel
theorem dX1_passYear_55 : decode cX1_passYear 55 = .ok (.iadd, 1) := by decide +kernel
theorem dX1_passYear_56 : decode cX1_passYear 56 = .ok (.invokestatic 83, 3) := by decide +kernel
theorem dX1_passYear_59 : decode cX1_passYear 59 = .ok (.iastore, 1) := by decide +kernel
theorem dX1_passYear_60 : decode cX1_passYear 60 = .ok (.aload_n 0, 1) := by decide +kernel
theorem dX1_passYear_61 : decode cX1_passYear 61 = .ok (.getfield 15, 3) := by decide +kernel
theorem dX1_passYear_64 : decode cX1_passYear 64 = .ok (.getfield 40, 3) := by decide +kernel
theorem dX1_passYear_67 : decode cX1_passYear 67 = .ok (.iload_n 1, 1) := by decide +kernel
theorem dX1_passYear_68 : decode cX1_passYear 68 = .ok (.dup2, 1) := by decide +kernel
theorem dX1_passYear_69 : decode cX1_passYear 69 = .ok (.iaload, 1) := by decide +kernel
theorem dX1_passYear_70 : decode cX1_passYear 70 = .ok (.iconst 1, 1) := by decide +kernel
theorem dX1_passYear_71 : decode cX1_passYear 71 = .ok (.iadd, 1) := by decide +kernel
theorem dX1_passYear_72 : decode cX1_passYear 72 = .ok (.iastore, 1) := by decide +kernel
theorem dX1_passYear_73 : decode cX1_passYear 73 = .ok (.iinc 1 1, 3) := by decide +kernel
theorem dX1_passYear_76 : decode cX1_passYear 76 = .ok (.goto (-74), 3) := by decide +kernel
theorem dX1_passYear_79 : decode cX1_passYear 79 = .ok (.return_, 1) := by decide +kernel
theorem dX1_comesIn_0 : decode cX1_comesIn 0 = .ok (.aload_n 0, 1) := by decide +kernel
theorem dX1_comesIn_1 : decode cX1_comesIn 1 = .ok (.getfield 15, 3) := by decide +kernel
theorem dX1_comesIn_4 : decode cX1_comesIn 4 = .ok (.iload_n 1, 1) := by decide +kernel
theorem dX1_comesIn_5 : decode cX1_comesIn 5 = .ok (.iload_n 2, 1) := by decide +kernel
theorem dX1_comesIn_6 : decode cX1_comesIn 6 = .ok (.iload_n 3, 1) := by decide +kernel
theorem dX1_comesIn_7 : decode cX1_comesIn 7 = .ok (.invokevirtual 92, 3) := by decide +kernel
theorem dX1_comesIn_10 : decode cX1_comesIn 10 = .ok (.iconst 0, 1) := by decide +kernel
theorem dX1_comesIn_11 : decode cX1_comesIn 11 = .ok (.istore 4, 2) := by decide +kernel
theorem dX1_comesIn_13 : decode cX1_comesIn 13 = .ok (.iconst 0, 1) := by decide +kernel
theorem dX1_comesIn_14 : decode cX1_comesIn 14 = .ok (.istore 5, 2) := by decide +kernel
theorem dX1_comesIn_16 : decode cX1_comesIn 16 = .ok (.iload 5, 2) := by decide +kernel
theorem dX1_comesIn_18 : decode cX1_comesIn 18 = .ok (.sipush 1000, 3) := by decide +kernel
theorem dX1_comesIn_21 : decode cX1_comesIn 21 = .ok (.if_icmp .ge 42, 3) := by decide +kernel
theorem dX1_comesIn_24 : decode cX1_comesIn 24 = .ok (.aload_n 0, 1) := by decide +kernel
theorem dX1_comesIn_25 : decode cX1_comesIn 25 = .ok (.getfield 15, 3) := by decide +kernel
theorem dX1_comesIn_28 : decode cX1_comesIn 28 = .ok (.aload_n 0, 1) := by decide +kernel
theorem dX1_comesIn_29 : decode cX1_comesIn 29 = .ok (.iload_n 2, 1) := by decide +kernel
theorem dX1_comesIn_30 : decode cX1_comesIn 30 = .ok (.invokevirtual 96, 3) := by decide +kernel
theorem dX1_comesIn_33 : decode cX1_comesIn 33 = .ok (.invokevirtual 50, 3) := by decide +kernel
theorem dX1_comesIn_36 : decode cX1_comesIn 36 = .ok (.istore 6, 2) := by decide +kernel
theorem dX1_comesIn_38 : decode cX1_comesIn 38 = .ok (.iload 6, 2) := by decide +kernel
theorem dX1_comesIn_40 : decode cX1_comesIn 40 = .ok (.iconst (-1), 1) := by decide +kernel
theorem dX1_comesIn_41 : decode cX1_comesIn 41 = .ok (.if_icmp .ne 6, 3) := by decide +kernel
theorem dX1_comesIn_44 : decode cX1_comesIn 44 = .ok (.goto 19, 3) := by decide +kernel
theorem dX1_comesIn_47 : decode cX1_comesIn 47 = .ok (.aload_n 0, 1) := by decide +kernel
theorem dX1_comesIn_48 : decode cX1_comesIn 48 = .ok (.iload 6, 2) := by decide +kernel
theorem dX1_comesIn_50 : decode cX1_comesIn 50 = .ok (.iload_n 2, 1) := by decide +kernel
theorem dX1_comesIn_51 : decode cX1_comesIn 51 = .ok (.invokevirtual 99, 3) := by decide +kernel
theorem dX1_comesIn_54 : decode cX1_comesIn 54 = .ok (.iinc 4 1, 3) := by decide +kernel
theorem dX1_comesIn_57 : decode cX1_comesIn 57 = .ok (.iinc 5 1, 3) := by decide +kernel
theorem dX1_comesIn_60 : decode cX1_comesIn 60 = .ok (.goto (-44), 3) := by decide +kernel
theorem dX1_comesIn_63 : decode cX1_comesIn 63 = .ok (.iload 4, 2) := by decide +kernel
theorem dX1_comesIn_65 : decode cX1_comesIn 65 = .ok (.ireturn, 1) := by decide +kernel
theorem dX1_moveDownOrOut_0 : decode cX1_moveDownOrOut 0 = .ok (.aload_n 0, 1) := by decide +kernel
theorem dX1_moveDownOrOut_1 : decode cX1_moveDownOrOut 1 = .ok (.iload_n 2, 1) := by decide +kernel
theorem dX1_moveDownOrOut_2 : decode cX1_moveDownOrOut 2 = .ok (.invokevirtual 103, 3) := by decide +kernel
theorem dX1_moveDownOrOut_5 : decode cX1_moveDownOrOut 5 = .ok (.istore_n 3, 1) := by decide +kernel
theorem dX1_moveDownOrOut_6 : decode cX1_moveDownOrOut 6 = .ok (.iload_n 3, 1) := by decide +kernel
theorem dX1_moveDownOrOut_7 : decode cX1_moveDownOrOut 7 = .ok (.iconst (-1), 1) := by decide +kernel
theorem dX1_moveDownOrOut_8 : decode cX1_moveDownOrOut 8 = .ok (.if_icmp .eq 45, 3) := by decide +kernel
theorem dX1_moveDownOrOut_11 : decode cX1_moveDownOrOut 11 = .ok (.aload_n 0, 1) := by decide +kernel
theorem dX1_moveDownOrOut_12 : decode cX1_moveDownOrOut 12 = .ok (.getfield 9, 3) := by decide +kernel
theorem dX1_moveDownOrOut_15 : decode cX1_moveDownOrOut 15 = .ok (.iload_n 2, 1) := by decide +kernel
theorem dX1_moveDownOrOut_16 : decode cX1_moveDownOrOut 16 = .ok (.iload_n 3, 1) := by decide +kernel
theorem dX1_moveDownOrOut_17 : decode cX1_moveDownOrOut 17 = .ok (.invokevirtual 28, 3) := by decide +kernel
theorem dX1_moveDownOrOut_20 : decode cX1_moveDownOrOut 20 = .ok (.aload_n 0, 1) := by decide +kernel
theorem dX1_moveDownOrOut_21 : decode cX1_moveDownOrOut 21 = .ok (.getfield 9, 3) := by decide +kernel
theorem dX1_moveDownOrOut_24 : decode cX1_moveDownOrOut 24 = .ok (.iload_n 2, 1) := by decide +kernel
theorem dX1_moveDownOrOut_25 : decode cX1_moveDownOrOut 25 = .ok (.aload_n 0, 1) := by decide +kernel
theorem dX1_moveDownOrOut_26 : decode cX1_moveDownOrOut 26 = .ok (.getfield 15, 3) := by decide +kernel
theorem dX1_moveDownOrOut_29 : decode cX1_moveDownOrOut 29 = .ok (.getfield 25, 3) := by decide +kernel
theorem dX1_moveDownOrOut_32 : decode cX1_moveDownOrOut 32 = .ok (.iload_n 1, 1) := by decide +kernel
theorem dX1_moveDownOrOut_33 : decode cX1_moveDownOrOut 33 = .ok (.iaload, 1) := by decide +kernel
theorem dX1_moveDownOrOut_34 : decode cX1_moveDownOrOut 34 = .ok (.invokevirtual 28, 3) := by decide +kernel
theorem dX1_moveDownOrOut_37 : decode cX1_moveDownOrOut 37 = .ok (.if_icmp .ge 16, 3) := by decide +kernel
theorem dX1_moveDownOrOut_40 : decode cX1_moveDownOrOut 40 = .ok (.aload_n 0, 1) := by decide +kernel
theorem dX1_moveDownOrOut_41 : decode cX1_moveDownOrOut 41 = .ok (.getfield 15, 3) := by decide +kernel
theorem dX1_moveDownOrOut_44 : decode cX1_moveDownOrOut 44 = .ok (.iload_n 1, 1) := by decide +kernel
theorem dX1_moveDownOrOut_45 : decode cX1_moveDownOrOut 45 = .ok (.iload_n 2, 1) := by decide +kernel
theorem dX1_moveDownOrOut_46 : decode cX1_moveDownOrOut 46 = .ok (.iload_n 3, 1) := by decide +kernel
theorem dX1_moveDownOrOut_47 : decode cX1_moveDownOrOut 47 = .ok (.invokevirtual 92, 3) := by decide +kernel
theorem dX1_moveDownOrOut_50 : decode cX1_moveDownOrOut 50 = .ok (.goto 11, 3) := by decide +kernel
theorem dX1_moveDownOrOut_53 : decode cX1_moveDownOrOut 53 = .ok (.aload_n 0, 1) := by decide +kernel
theorem dX1_moveDownOrOut_54 : decode cX1_moveDownOrOut 54 = .ok (.getfield 15, 3) := by decide +kernel
theorem dX1_moveDownOrOut_57 : decode cX1_moveDownOrOut 57 = .ok (.iload_n 1, 1) := by decide +kernel
theorem dX1_moveDownOrOut_58 : decode cX1_moveDownOrOut 58 = .ok (.invokevirtual 106, 3) := by decide +kernel
theorem dX1_moveDownOrOut_61 : decode cX1_moveDownOrOut 61 = .ok (.return_, 1) := by decide +kernel
theorem dX1_lowestFree_0 : decode cX1_lowestFree 0 = .ok (.iconst (-1), 1) := by decide +kernel
theorem dX1_lowestFree_1 : decode cX1_lowestFree 1 = .ok (.istore_n 2, 1) := by decide +kernel
theorem dX1_lowestFree_2 : decode cX1_lowestFree 2 = .ok (.iconst 0, 1) := by decide +kernel
theorem dX1_lowestFree_3 : decode cX1_lowestFree 3 = .ok (.istore_n 3, 1) := by decide +kernel
theorem dX1_lowestFree_4 : decode cX1_lowestFree 4 = .ok (.iload_n 3, 1) := by decide +kernel
theorem dX1_lowestFree_5 : decode cX1_lowestFree 5 = .ok (.aload_n 0, 1) := by decide +kernel
theorem dX1_lowestFree_6 : decode cX1_lowestFree 6 = .ok (.getfield 9, 3) := by decide +kernel
theorem dX1_lowestFree_9 : decode cX1_lowestFree 9 = .ok (.iload_n 1, 1) := by decide +kernel
theorem dX1_lowestFree_10 : decode cX1_lowestFree 10 = .ok (.invokevirtual 110, 3) := by decide +kernel
theorem dX1_lowestFree_13 : decode cX1_lowestFree 13 = .ok (.if_icmp .ge 62, 3) := by decide +kernel
theorem dX1_lowestFree_16 : decode cX1_lowestFree 16 = .ok (.iload_n 2, 1) := by decide +kernel
theorem dX1_lowestFree_17 : decode cX1_lowestFree 17 = .ok (.iconst (-1), 1) := by decide +kernel
theorem dX1_lowestFree_18 : decode cX1_lowestFree 18 = .ok (.if_icmp .eq 24, 3) := by decide +kernel
theorem dX1_lowestFree_21 : decode cX1_lowestFree 21 = .ok (.aload_n 0, 1) := by decide +kernel
theorem dX1_lowestFree_22 : decode cX1_lowestFree 22 = .ok (.getfield 9, 3) := by decide +kernel
theorem dX1_lowestFree_25 : decode cX1_lowestFree 25 = .ok (.iload_n 1, 1) := by decide +kernel
theorem dX1_lowestFree_26 : decode cX1_lowestFree 26 = .ok (.iload_n 3, 1) := by decide +kernel
theorem dX1_lowestFree_27 : decode cX1_lowestFree 27 = .ok (.invokevirtual 28, 3) := by decide +kernel
theorem dX1_lowestFree_30 : decode cX1_lowestFree 30 = .ok (.aload_n 0, 1) := by decide +kernel
theorem dX1_lowestFree_31 : decode cX1_lowestFree 31 = .ok (.getfield 9, 3) := by decide +kernel
theorem dX1_lowestFree_34 : decode cX1_lowestFree 34 = .ok (.iload_n 1, 1) := by decide +kernel
theorem dX1_lowestFree_35 : decode cX1_lowestFree 35 = .ok (.iload_n 2, 1) := by decide +kernel
theorem dX1_lowestFree_36 : decode cX1_lowestFree 36 = .ok (.invokevirtual 28, 3) := by decide +kernel
theorem dX1_lowestFree_39 : decode cX1_lowestFree 39 = .ok (.if_icmp .ge 7, 3) := by decide +kernel
theorem dX1_lowestFree_42 : decode cX1_lowestFree 42 = .ok (.iconst 1, 1) := by decide +kernel
theorem dX1_lowestFree_43 : decode cX1_lowestFree 43 = .ok (.goto 4, 3) := by decide +kernel
theorem dX1_lowestFree_46 : decode cX1_lowestFree 46 = .ok (.iconst 0, 1) := by decide +kernel
theorem dX1_lowestFree_47 : decode cX1_lowestFree 47 = .ok (.istore 4, 2) := by decide +kernel
theorem dX1_lowestFree_49 : decode cX1_lowestFree 49 = .ok (.iload 4, 2) := by decide +kernel
theorem dX1_lowestFree_51 : decode cX1_lowestFree 51 = .ok (.ifCond .eq 18, 3) := by decide +kernel
theorem dX1_lowestFree_54 : decode cX1_lowestFree 54 = .ok (.aload_n 0, 1) := by decide +kernel
theorem dX1_lowestFree_55 : decode cX1_lowestFree 55 = .ok (.getfield 15, 3) := by decide +kernel
theorem dX1_lowestFree_58 : decode cX1_lowestFree 58 = .ok (.iload_n 1, 1) := by decide +kernel
theorem dX1_lowestFree_59 : decode cX1_lowestFree 59 = .ok (.iload_n 3, 1) := by decide +kernel
theorem dX1_lowestFree_60 : decode cX1_lowestFree 60 = .ok (.invokevirtual 113, 3) := by decide +kernel
theorem dX1_lowestFree_63 : decode cX1_lowestFree 63 = .ok (.iconst (-1), 1) := by decide +kernel
theorem dX1_lowestFree_64 : decode cX1_lowestFree 64 = .ok (.if_icmp .ne 5, 3) := by decide +kernel
theorem dX1_lowestFree_67 : decode cX1_lowestFree 67 = .ok (.iload_n 3, 1) := by decide +kernel
theorem dX1_lowestFree_68 : decode cX1_lowestFree 68 = .ok (.istore_n 2, 1) := by decide +kernel
theorem dX1_lowestFree_69 : decode cX1_lowestFree 69 = .ok (.iinc 3 1, 3) := by decide +kernel
theorem dX1_lowestFree_72 : decode cX1_lowestFree 72 = .ok (.goto (-68), 3) := by decide +kernel
theorem dX1_lowestFree_75 : decode cX1_lowestFree 75 = .ok (.iload_n 2, 1) := by decide +kernel
theorem dX1_lowestFree_76 : decode cX1_lowestFree 76 = .ok (.ireturn, 1) := by decide +kernel
theorem dX1_inchesToCut_0 : decode cX1_inchesToCut 0 = .ok (.aload_n 0, 1) := by decide +kernel
theorem dX1_inchesToCut_1 : decode cX1_inchesToCut 1 = .ok (.getfield 15, 3) := by decide +kernel
theorem dX1_inchesToCut_4 : decode cX1_inchesToCut 4 = .ok (.iload_n 1, 1) := by decide +kernel
theorem dX1_inchesToCut_5 : decode cX1_inchesToCut 5 = .ok (.invokevirtual 74, 3) := by decide +kernel
theorem dX1_inchesToCut_8 : decode cX1_inchesToCut 8 = .ok (.istore_n 2, 1) := by decide +kernel
theorem dX1_inchesToCut_9 : decode cX1_inchesToCut 9 = .ok (.aload_n 0, 1) := by decide +kernel
theorem dX1_inchesToCut_10 : decode cX1_inchesToCut 10 = .ok (.getfield 15, 3) := by decide +kernel
theorem dX1_inchesToCut_13 : decode cX1_inchesToCut 13 = .ok (.iload_n 2, 1) := by decide +kernel
theorem dX1_inchesToCut_14 : decode cX1_inchesToCut 14 = .ok (.invokevirtual 50, 3) := by decide +kernel
theorem dX1_inchesToCut_17 : decode cX1_inchesToCut 17 = .ok (.istore_n 3, 1) := by decide +kernel
theorem dX1_inchesToCut_18 : decode cX1_inchesToCut 18 = .ok (.iload_n 3, 1) := by decide +kernel
theorem dX1_inchesToCut_19 : decode cX1_inchesToCut 19 = .ok (.iconst (-1), 1) := by decide +kernel
theorem dX1_inchesToCut_20 : decode cX1_inchesToCut 20 = .ok (.if_icmp .ne 5, 3) := by decide +kernel
theorem dX1_inchesToCut_23 : decode cX1_inchesToCut 23 = .ok (.iconst 0, 1) := by decide +kernel
theorem dX1_inchesToCut_24 : decode cX1_inchesToCut 24 = .ok (.ireturn, 1) := by decide +kernel
theorem dX1_inchesToCut_25 : decode cX1_inchesToCut 25 = .ok (.aload_n 0, 1) := by decide +kernel
theorem dX1_inchesToCut_26 : decode cX1_inchesToCut 26 = .ok (.iload_n 3, 1) := by decide +kernel
theorem dX1_inchesToCut_27 : decode cX1_inchesToCut 27 = .ok (.invokevirtual 77, 3) := by decide +kernel
theorem dX1_inchesToCut_30 : decode cX1_inchesToCut 30 = .ok (.istore 4, 2) := by decide +kernel
theorem dX1_inchesToCut_32 : decode cX1_inchesToCut 32 = .ok (.iconst 0, 1) := by decide +kernel
theorem dX1_inchesToCut_33 : decode cX1_inchesToCut 33 = .ok (.istore 5, 2) := by decide +kernel
theorem dX1_inchesToCut_35 : decode cX1_inchesToCut 35 = .ok (.iconst 1, 1) := by decide +kernel
theorem dX1_inchesToCut_36 : decode cX1_inchesToCut 36 = .ok (.istore 6, 2) := by decide +kernel
theorem dX1_inchesToCut_38 : decode cX1_inchesToCut 38 = .ok (.iload 6, 2) := by decide +kernel
theorem dX1_inchesToCut_40 : decode cX1_inchesToCut 40 = .ok (.bipush 6, 2) := by decide +kernel
theorem dX1_inchesToCut_42 : decode cX1_inchesToCut 42 = .ok (.if_icmp .ge 74, 3) := by decide +kernel
theorem dX1_inchesToCut_45 : decode cX1_inchesToCut 45 = .ok (.iload_n 2, 1) := by decide +kernel
theorem dX1_inchesToCut_46 : decode cX1_inchesToCut 46 = .ok (.iconst 1, 1) := by decide +kernel
theorem dX1_inchesToCut_47 : decode cX1_inchesToCut 47 = .ok (.iload_n 3, 1) := by decide +kernel
theorem dX1_inchesToCut_48 : decode cX1_inchesToCut 48 = .ok (.ishl, 1) := by decide +kernel
theorem dX1_inchesToCut_49 : decode cX1_inchesToCut 49 = .ok (.iconst (-1), 1) := by decide +kernel
theorem dX1_inchesToCut_50 : decode cX1_inchesToCut 50 = .ok (.ixor, 1) := by decide +kernel
theorem dX1_inchesToCut_51 : decode cX1_inchesToCut 51 = .ok (.iand, 1) := by decide +kernel
theorem dX1_inchesToCut_52 : decode cX1_inchesToCut 52 = .ok (.istore_n 2, 1) := by decide +kernel
theorem dX1_inchesToCut_53 : decode cX1_inchesToCut 53 = .ok (.aload_n 0, 1) := by decide +kernel
theorem dX1_inchesToCut_54 : decode cX1_inchesToCut 54 = .ok (.getfield 15, 3) := by decide +kernel
theorem dX1_inchesToCut_57 : decode cX1_inchesToCut 57 = .ok (.iload_n 2, 1) := by decide +kernel
theorem dX1_inchesToCut_58 : decode cX1_inchesToCut 58 = .ok (.invokevirtual 50, 3) := by decide +kernel
theorem dX1_inchesToCut_61 : decode cX1_inchesToCut 61 = .ok (.istore_n 3, 1) := by decide +kernel
theorem dX1_inchesToCut_62 : decode cX1_inchesToCut 62 = .ok (.iload_n 3, 1) := by decide +kernel
theorem dX1_inchesToCut_63 : decode cX1_inchesToCut 63 = .ok (.iconst (-1), 1) := by decide +kernel
theorem dX1_inchesToCut_64 : decode cX1_inchesToCut 64 = .ok (.if_icmp .ne 6, 3) := by decide +kernel
theorem dX1_inchesToCut_67 : decode cX1_inchesToCut 67 = .ok (.goto 49, 3) := by decide +kernel
theorem dX1_inchesToCut_70 : decode cX1_inchesToCut 70 = .ok (.iload 5, 2) := by decide +kernel
theorem dX1_inchesToCut_72 : decode cX1_inchesToCut 72 = .ok (.iconst 0, 1) := by decide +kernel
theorem dX1_inchesToCut_73 : decode cX1_inchesToCut 73 = .ok (.aload_n 0, 1) := by decide +kernel
theorem dX1_inchesToCut_74 : decode cX1_inchesToCut 74 = .ok (.iload_n 3, 1) := by decide +kernel
theorem dX1_inchesToCut_75 : decode cX1_inchesToCut 75 = .ok (.invokevirtual 77, 3) := by decide +kernel
theorem dX1_inchesToCut_78 : decode cX1_inchesToCut 78 = .ok (.aload_n 0, 1) := by decide +kernel
theorem dX1_inchesToCut_79 : decode cX1_inchesToCut 79 = .ok (.getfield 9, 3) := by decide +kernel
theorem dX1_inchesToCut_82 : decode cX1_inchesToCut 82 = .ok (.getfield 80, 3) := by decide +kernel
theorem dX1_inchesToCut_85 : decode cX1_inchesToCut 85 = .ok (.iload_n 3, 1) := by decide +kernel
theorem dX1_inchesToCut_86 : decode cX1_inchesToCut 86 = .ok (.iaload, 1) := by decide +kernel
theorem dX1_inchesToCut_87 : decode cX1_inchesToCut 87 = .ok (.isub, 1) := by decide +kernel
theorem dX1_inchesToCut_88 : decode cX1_inchesToCut 88 = .ok (.iload 4, 2) := by decide +kernel
theorem dX1_inchesToCut_90 : decode cX1_inchesToCut 90 = .ok (.isub, 1) := by decide +kernel
theorem dX1_inchesToCut_91 : decode cX1_inchesToCut 91 = .ok (.invokestatic 57, 3) := by decide +kernel
theorem dX1_inchesToCut_94 : decode cX1_inchesToCut 94 = .ok (.iadd, 1) := by decide +kernel
theorem dX1_inchesToCut_95 : decode cX1_inchesToCut 95 = .ok (.istore 5, 2) := by decide +kernel
theorem dX1_inchesToCut_97 : decode cX1_inchesToCut 97 = .ok (.aload_n 0, 1) := by decide +kernel
theorem dX1_inchesToCut_98 : decode cX1_inchesToCut 98 = .ok (.iload 4, 2) := by decide +kernel
theorem dX1_inchesToCut_100 : decode cX1_inchesToCut 100 = .ok (.aload_n 0, 1) := by decide +kernel
theorem dX1_inchesToCut_101 : decode cX1_inchesToCut 101 = .ok (.iload_n 3, 1) := by decide +kernel
theorem dX1_inchesToCut_102 : decode cX1_inchesToCut 102 = .ok (.invokevirtual 77, 3) := by decide +kernel
theorem dX1_inchesToCut_105 : decode cX1_inchesToCut 105 = .ok (.invokevirtual 86, 3) := by decide +kernel
theorem dX1_inchesToCut_108 : decode cX1_inchesToCut 108 = .ok (.istore 4, 2) := by decide +kernel
theorem dX1_inchesToCut_110 : decode cX1_inchesToCut 110 = .ok (.iinc 6 1, 3) := by decide +kernel
theorem dX1_inchesToCut_113 : decode cX1_inchesToCut 113 = .ok (.goto (-75), 3) := by decide +kernel
theorem dX1_inchesToCut_116 : decode cX1_inchesToCut 116 = .ok (.iload 5, 2) := by decide +kernel
theorem dX1_inchesToCut_118 : decode cX1_inchesToCut 118 = .ok (.ireturn, 1) := by decide +kernel
theorem dX1_passByDraw_0 : decode cX1_passByDraw 0 = .ok (.aload_n 0, 1) := by decide +kernel
theorem dX1_passByDraw_1 : decode cX1_passByDraw 1 = .ok (.aload_n 0, 1) := by decide +kernel
theorem dX1_passByDraw_2 : decode cX1_passByDraw 2 = .ok (.getfield 9, 3) := by decide +kernel
theorem dX1_passByDraw_5 : decode cX1_passByDraw 5 = .ok (.getfield 62, 3) := by decide +kernel
theorem dX1_passByDraw_8 : decode cX1_passByDraw 8 = .ok (.invokevirtual 116, 3) := by decide +kernel
theorem dX1_passByDraw_11 : decode cX1_passByDraw 11 = .ok (.istore_n 1, 1) := by decide +kernel
theorem dX1_passByDraw_12 : decode cX1_passByDraw 12 = .ok (.aload_n 0, 1) := by decide +kernel
theorem dX1_passByDraw_13 : decode cX1_passByDraw 13 = .ok (.getfield 15, 3) := by decide +kernel
theorem dX1_passByDraw_16 : decode cX1_passByDraw 16 = .ok (.getfield 19, 3) := by decide +kernel
theorem dX1_passByDraw_19 : decode cX1_passByDraw 19 = .ok (.iload_n 1, 1) := by decide +kernel
theorem dX1_passByDraw_20 : decode cX1_passByDraw 20 = .ok (.iaload, 1) := by decide +kernel
theorem dX1_passByDraw_21 : decode cX1_passByDraw 21 = .ok (.istore_n 2, 1) := by decide +kernel
theorem dX1_passByDraw_22 : decode cX1_passByDraw 22 = .ok (.iload_n 2, 1) := by decide +kernel
theorem dX1_passByDraw_23 : decode cX1_passByDraw 23 = .ok (.iconst (-1), 1) := by decide +kernel
theorem dX1_passByDraw_24 : decode cX1_passByDraw 24 = .ok (.if_icmp .eq 19, 3) := by decide +kernel
theorem dX1_passByDraw_27 : decode cX1_passByDraw 27 = .ok (.aload_n 0, 1) := by decide +kernel
theorem dX1_passByDraw_28 : decode cX1_passByDraw 28 = .ok (.getfield 15, 3) := by decide +kernel
theorem dX1_passByDraw_31 : decode cX1_passByDraw 31 = .ok (.iload_n 1, 1) := by decide +kernel
theorem dX1_passByDraw_32 : decode cX1_passByDraw 32 = .ok (.invokevirtual 106, 3) := by decide +kernel
theorem dX1_passByDraw_35 : decode cX1_passByDraw 35 = .ok (.aload_n 0, 1) := by decide +kernel
theorem dX1_passByDraw_36 : decode cX1_passByDraw 36 = .ok (.iload_n 2, 1) := by decide +kernel
theorem dX1_passByDraw_37 : decode cX1_passByDraw 37 = .ok (.invokevirtual 96, 3) := by decide +kernel
theorem dX1_passByDraw_40 : decode cX1_passByDraw 40 = .ok (.pop, 1) := by decide +kernel
theorem dX1_passByDraw_41 : decode cX1_passByDraw 41 = .ok (.iconst 0, 1) := by decide +kernel
theorem dX1_passByDraw_42 : decode cX1_passByDraw 42 = .ok (.ireturn, 1) := by decide +kernel
theorem dX1_passByDraw_43 : decode cX1_passByDraw 43 = .ok (.aload_n 0, 1) := by decide +kernel
theorem dX1_passByDraw_44 : decode cX1_passByDraw 44 = .ok (.aload_n 0, 1) := by decide +kernel
theorem dX1_passByDraw_45 : decode cX1_passByDraw 45 = .ok (.getfield 9, 3) := by decide +kernel
theorem dX1_passByDraw_48 : decode cX1_passByDraw 48 = .ok (.getfield 68, 3) := by decide +kernel
theorem dX1_passByDraw_51 : decode cX1_passByDraw 51 = .ok (.invokevirtual 116, 3) := by decide +kernel
theorem dX1_passByDraw_54 : decode cX1_passByDraw 54 = .ok (.istore_n 2, 1) := by decide +kernel
theorem dX1_passByDraw_55 : decode cX1_passByDraw 55 = .ok (.aload_n 0, 1) := by decide +kernel
theorem dX1_passByDraw_56 : decode cX1_passByDraw 56 = .ok (.aload_n 0, 1) := by decide +kernel
theorem dX1_passByDraw_57 : decode cX1_passByDraw 57 = .ok (.getfield 9, 3) := by decide +kernel
theorem dX1_passByDraw_60 : decode cX1_passByDraw 60 = .ok (.iload_n 2, 1) := by decide +kernel
theorem dX1_passByDraw_61 : decode cX1_passByDraw 61 = .ok (.invokevirtual 110, 3) := by decide +kernel
theorem dX1_passByDraw_64 : decode cX1_passByDraw 64 = .ok (.invokevirtual 116, 3) := by decide +kernel
theorem dX1_passByDraw_67 : decode cX1_passByDraw 67 = .ok (.istore_n 3, 1) := by decide +kernel
theorem dX1_passByDraw_68 : decode cX1_passByDraw 68 = .ok (.aload_n 0, 1) := by decide +kernel
theorem dX1_passByDraw_69 : decode cX1_passByDraw 69 = .ok (.getfield 15, 3) := by decide +kernel
theorem dX1_passByDraw_72 : decode cX1_passByDraw 72 = .ok (.iload_n 1, 1) := by decide +kernel
theorem dX1_passByDraw_73 : decode cX1_passByDraw 73 = .ok (.iload_n 2, 1) := by decide +kernel
theorem dX1_passByDraw_74 : decode cX1_passByDraw 74 = .ok (.iload_n 3, 1) := by decide +kernel
theorem dX1_passByDraw_75 : decode cX1_passByDraw 75 = .ok (.invokevirtual 119, 3) := by decide +kernel
theorem dX1_passByDraw_78 : decode cX1_passByDraw 78 = .ok (.ifCond .eq 13, 3) := by decide +kernel
theorem dX1_passByDraw_81 : decode cX1_passByDraw 81 = .ok (.aload_n 0, 1) := by decide +kernel
theorem dX1_passByDraw_82 : decode cX1_passByDraw 82 = .ok (.iload_n 1, 1) := by decide +kernel
theorem dX1_passByDraw_83 : decode cX1_passByDraw 83 = .ok (.iload_n 2, 1) := by decide +kernel
theorem dX1_passByDraw_84 : decode cX1_passByDraw 84 = .ok (.iload_n 3, 1) := by decide +kernel
theorem dX1_passByDraw_85 : decode cX1_passByDraw 85 = .ok (.invokevirtual 123, 3) := by decide +kernel
theorem dX1_passByDraw_88 : decode cX1_passByDraw 88 = .ok (.goto 4, 3) := by decide +kernel
theorem dX1_passByDraw_91 : decode cX1_passByDraw 91 = .ok (.iconst 0, 1) := by decide +kernel
theorem dX1_passByDraw_92 : decode cX1_passByDraw 92 = .ok (.ireturn, 1) := by decide +kernel
theorem dX1_drawOf_0 : decode cX1_drawOf 0 = .ok (.aload_n 0, 1) := by decide +kernel
theorem dX1_drawOf_1 : decode cX1_drawOf 1 = .ok (.getfield 15, 3) := by decide +kernel
theorem dX1_drawOf_4 : decode cX1_drawOf 4 = .ok (.aload_n 0, 1) := by decide +kernel
theorem dX1_drawOf_5 : decode cX1_drawOf 5 = .ok (.getfield 15, 3) := by decide +kernel
theorem dX1_drawOf_8 : decode cX1_drawOf 8 = .ok (.getfield 127, 3) := by decide +kernel
theorem dX1_drawOf_11 : decode cX1_drawOf 11 = .ok (.i2l, 1) := by decide +kernel
theorem dX1_drawOf_12 : decode cX1_drawOf 12 = .ok (.ldc2_w 130, 3) := by decide +kernel
theorem dX1_drawOf_15 : decode cX1_drawOf 15 = .ok (.lmul, 1) := by decide +kernel
theorem dX1_drawOf_16 : decode cX1_drawOf 16 = .ok (.ldc2_w 132, 3) := by decide +kernel
theorem dX1_drawOf_19 : decode cX1_drawOf 19 = .ok (.ladd, 1) := by decide +kernel
theorem dX1_drawOf_20 : decode cX1_drawOf 20 = .ok (.ldc2_w 134, 3) := by decide +kernel
theorem dX1_drawOf_23 : decode cX1_drawOf 23 = .ok (.land, 1) := by decide +kernel
theorem dX1_drawOf_24 : decode cX1_drawOf 24 = .ok (.l2i, 1) := by decide +kernel
theorem dX1_drawOf_25 : decode cX1_drawOf 25 = .ok (.putfield 127, 3) := by decide +kernel
theorem dX1_drawOf_28 : decode cX1_drawOf 28 = .ok (.iload_n 1, 1) := by decide +kernel
theorem dX1_drawOf_29 : decode cX1_drawOf 29 = .ok (.ifCond .le 18, 3) := by decide +kernel
theorem dX1_drawOf_32 : decode cX1_drawOf 32 = .ok (.aload_n 0, 1) := by decide +kernel
theorem dX1_drawOf_33 : decode cX1_drawOf 33 = .ok (.getfield 15, 3) := by decide +kernel
theorem dX1_drawOf_36 : decode cX1_drawOf 36 = .ok (.getfield 127, 3) := by decide +kernel
theorem dX1_drawOf_39 : decode cX1_drawOf 39 = .ok (.ldc 136, 2) := by decide +kernel
theorem dX1_drawOf_41 : decode cX1_drawOf 41 = .ok (.idiv, 1) := by decide +kernel
theorem dX1_drawOf_42 : decode cX1_drawOf 42 = .ok (.iload_n 1, 1) := by decide +kernel
theorem dX1_drawOf_43 : decode cX1_drawOf 43 = .ok (.irem, 1) := by decide +kernel
theorem dX1_drawOf_44 : decode cX1_drawOf 44 = .ok (.goto 4, 3) := by decide +kernel
theorem dX1_drawOf_47 : decode cX1_drawOf 47 = .ok (.iconst 0, 1) := by decide +kernel
theorem dX1_drawOf_48 : decode cX1_drawOf 48 = .ok (.ireturn, 1) := by decide +kernel
theorem dX2_init_0 : decode cX2_init 0 = .ok (.aload_n 0, 1) := by decide +kernel
theorem dX2_init_1 : decode cX2_init 1 = .ok (.invokespecial 3, 3) := by decide +kernel
theorem dX2_init_4 : decode cX2_init 4 = .ok (.aload_n 0, 1) := by decide +kernel
theorem dX2_init_5 : decode cX2_init 5 = .ok (.iconst 3, 1) := by decide +kernel
theorem dX2_init_6 : decode cX2_init 6 = .ok (.newarray .int, 2) := by decide +kernel
theorem dX2_init_8 : decode cX2_init 8 = .ok (.putfield 9, 3) := by decide +kernel
theorem dX2_init_11 : decode cX2_init 11 = .ok (.aload_n 0, 1) := by decide +kernel
theorem dX2_init_12 : decode cX2_init 12 = .ok (.iconst 3, 1) := by decide +kernel
theorem dX2_init_13 : decode cX2_init 13 = .ok (.newarray .int, 2) := by decide +kernel
theorem dX2_init_15 : decode cX2_init 15 = .ok (.putfield 15, 3) := by decide +kernel
theorem dX2_init_18 : decode cX2_init 18 = .ok (.aload_n 0, 1) := by decide +kernel
theorem dX2_init_19 : decode cX2_init 19 = .ok (.aload_n 1, 1) := by decide +kernel
theorem dX2_init_20 : decode cX2_init 20 = .ok (.putfield 18, 3) := by decide +kernel
theorem dX2_init_23 : decode cX2_init 23 = .ok (.aload_n 0, 1) := by decide +kernel
theorem dX2_init_24 : decode cX2_init 24 = .ok (.aload_n 2, 1) := by decide +kernel
theorem dX2_init_25 : decode cX2_init 25 = .ok (.putfield 22, 3) := by decide +kernel
theorem dX2_init_28 : decode cX2_init 28 = .ok (.return_, 1) := by decide +kernel
theorem dX2_findDeal_0 : decode cX2_findDeal 0 = .ok (.aload_n 0, 1) := by decide +kernel
theorem dX2_findDeal_1 : decode cX2_findDeal 1 = .ok (.iconst 0, 1) := by decide +kernel
theorem dX2_findDeal_2 : decode cX2_findDeal 2 = .ok (.putfield 26, 3) := by decide +kernel
theorem dX2_findDeal_5 : decode cX2_findDeal 5 = .ok (.iconst 0, 1) := by decide +kernel
theorem dX2_findDeal_6 : decode cX2_findDeal 6 = .ok (.istore_n 2, 1) := by decide +kernel
theorem dX2_findDeal_7 : decode cX2_findDeal 7 = .ok (.iload_n 2, 1) := by decide +kernel
theorem dX2_findDeal_8 : decode cX2_findDeal 8 = .ok (.iconst 3, 1) := by decide +kernel
theorem dX2_findDeal_9 : decode cX2_findDeal 9 = .ok (.if_icmp .ge 16, 3) := by decide +kernel
theorem dX2_findDeal_12 : decode cX2_findDeal 12 = .ok (.aload_n 0, 1) := by decide +kernel
theorem dX2_findDeal_13 : decode cX2_findDeal 13 = .ok (.getfield 9, 3) := by decide +kernel
theorem dX2_findDeal_16 : decode cX2_findDeal 16 = .ok (.iload_n 2, 1) := by decide +kernel
theorem dX2_findDeal_17 : decode cX2_findDeal 17 = .ok (.iconst 0, 1) := by decide +kernel
theorem dX2_findDeal_18 : decode cX2_findDeal 18 = .ok (.iastore, 1) := by decide +kernel
theorem dX2_findDeal_19 : decode cX2_findDeal 19 = .ok (.iinc 2 1, 3) := by decide +kernel
theorem dX2_findDeal_22 : decode cX2_findDeal 22 = .ok (.goto (-15), 3) := by decide +kernel
theorem dX2_findDeal_25 : decode cX2_findDeal 25 = .ok (.aload_n 0, 1) := by decide +kernel
theorem dX2_findDeal_26 : decode cX2_findDeal 26 = .ok (.getfield 22, 3) := by decide +kernel
theorem dX2_findDeal_29 : decode cX2_findDeal 29 = .ok (.iload_n 1, 1) := by decide +kernel
theorem dX2_findDeal_30 : decode cX2_findDeal 30 = .ok (.invokevirtual 30, 3) := by decide +kernel
theorem dX2_findDeal_33 : decode cX2_findDeal 33 = .ok (.aload_n 0, 1) := by decide +kernel
theorem dX2_findDeal_34 : decode cX2_findDeal 34 = .ok (.iconst 0, 1) := by decide +kernel
theorem dX2_findDeal_35 : decode cX2_findDeal 35 = .ok (.iload_n 1, 1) := by decide +kernel
theorem dX2_findDeal_36 : decode cX2_findDeal 36 = .ok (.iconst 0, 1) := by decide +kernel
theorem dX2_findDeal_37 : decode cX2_findDeal 37 = .ok (.invokevirtual 36, 3) := by decide +kernel
theorem dX2_findDeal_40 : decode cX2_findDeal 40 = .ok (.aload_n 0, 1) := by decide +kernel
theorem dX2_findDeal_41 : decode cX2_findDeal 41 = .ok (.getfield 26, 3) := by decide +kernel
theorem dX2_findDeal_44 : decode cX2_findDeal 44 = .ok (.ireturn, 1) := by decide +kernel
theorem dX2_roomFor_0 : decode cX2_roomFor 0 = .ok (.iconst 0, 1) := by decide +kernel
theorem dX2_roomFor_1 : decode cX2_roomFor 1 = .ok (.istore_n 2, 1) := by decide +kernel
theorem dX2_roomFor_2 : decode cX2_roomFor 2 = .ok (.iload_n 2, 1) := by decide +kernel
theorem dX2_roomFor_3 : decode cX2_roomFor 3 = .ok (.aload_n 0, 1) := by decide +kernel
theorem dX2_roomFor_4 : decode cX2_roomFor 4 = .ok (.getfield 18, 3) := by decide +kernel
theorem dX2_roomFor_7 : decode cX2_roomFor 7 = .ok (.getfield 40, 3) := by decide +kernel
theorem dX2_roomFor_10 : decode cX2_roomFor 10 = .ok (.if_icmp .ge 24, 3) := by decide +kernel
theorem dX2_roomFor_13 : decode cX2_roomFor 13 = .ok (.aload_n 0, 1) := by decide +kernel
theorem dX2_roomFor_14 : decode cX2_roomFor 14 = .ok (.getfield 15, 3) := by decide +kernel
theorem dX2_roomFor_17 : decode cX2_roomFor 17 = .ok (.iload_n 2, 1) := by decide +kernel
theorem dX2_roomFor_18 : decode cX2_roomFor 18 = .ok (.iaload, 1) := by decide +kernel
theorem dX2_roomFor_19 : decode cX2_roomFor 19 = .ok (.iload_n 1, 1) := by decide +kernel
theorem dX2_roomFor_20 : decode cX2_roomFor 20 = .ok (.ishr, 1) := by decide +kernel
theorem dX2_roomFor_21 : decode cX2_roomFor 21 = .ok (.iconst 1, 1) := by decide +kernel
theorem dX2_roomFor_22 : decode cX2_roomFor 22 = .ok (.iand, 1) := by decide +kernel
theorem dX2_roomFor_23 : decode cX2_roomFor 23 = .ok (.ifCond .eq 5, 3) := by decide +kernel
theorem dX2_roomFor_26 : decode cX2_roomFor 26 = .ok (.iload_n 2, 1) := by decide +kernel
theorem dX2_roomFor_27 : decode cX2_roomFor 27 = .ok (.ireturn, 1) := by decide +kernel
theorem dX2_roomFor_28 : decode cX2_roomFor 28 = .ok (.iinc 2 1, 3) := by decide +kernel
theorem dX2_roomFor_31 : decode cX2_roomFor 31 = .ok (.goto (-29), 3) := by decide +kernel
theorem dX2_roomFor_34 : decode cX2_roomFor 34 = .ok (.iconst (-1), 1) := by decide +kernel
theorem dX2_roomFor_35 : decode cX2_roomFor 35 = .ok (.ireturn, 1) := by decide +kernel
theorem dX2_dealFrom_0 : decode cX2_dealFrom 0 = .ok (.iload_n 1, 1) := by decide +kernel
theorem dX2_dealFrom_1 : decode cX2_dealFrom 1 = .ok (.aload_n 0, 1) := by decide +kernel
theorem dX2_dealFrom_2 : decode cX2_dealFrom 2 = .ok (.getfield 18, 3) := by decide +kernel
theorem dX2_dealFrom_5 : decode cX2_dealFrom 5 = .ok (.getfield 46, 3) := by decide +kernel
theorem dX2_dealFrom_8 : decode cX2_dealFrom 8 = .ok (.if_icmp .lt 11, 3) := by decide +kernel
theorem dX2_dealFrom_11 : decode cX2_dealFrom 11 = .ok (.aload_n 0, 1) := by decide +kernel
theorem dX2_dealFrom_12 : decode cX2_dealFrom 12 = .ok (.iload_n 3, 1) := by decide +kernel
theorem dX2_dealFrom_13 : decode cX2_dealFrom 13 = .ok (.invokevirtual 49, 3) := by decide +kernel
theorem dX2_dealFrom_16 : decode cX2_dealFrom 16 = .ok (.goto 101, 3) := by decide +kernel
theorem dX2_dealFrom_19 : decode cX2_dealFrom 19 = .ok (.iload_n 2, 1) := by decide +kernel
theorem dX2_dealFrom_20 : decode cX2_dealFrom 20 = .ok (.iload_n 1, 1) := by decide +kernel
theorem dX2_dealFrom_21 : decode cX2_dealFrom 21 = .ok (.ishr, 1) := by decide +kernel
theorem dX2_dealFrom_22 : decode cX2_dealFrom 22 = .ok (.iconst 1, 1) := by decide +kernel
theorem dX2_dealFrom_23 : decode cX2_dealFrom 23 = .ok (.iand, 1) := by decide +kernel
theorem dX2_dealFrom_24 : decode cX2_dealFrom 24 = .ok (.ifCond .ne 15, 3) := by decide +kernel
theorem dX2_dealFrom_27 : decode cX2_dealFrom 27 = .ok (.aload_n 0, 1) := by decide +kernel
theorem dX2_dealFrom_28 : decode cX2_dealFrom 28 = .ok (.iload_n 1, 1) := by decide +kernel
theorem dX2_dealFrom_29 : decode cX2_dealFrom 29 = .ok (.iconst 1, 1) := by decide +kernel
theorem dX2_dealFrom_30 : decode cX2_dealFrom 30 = .ok (.iadd, 1) := by decide +kernel
theorem dX2_dealFrom_31 : decode cX2_dealFrom 31 = .ok (.iload_n 2, 1) := by decide +kernel
theorem dX2_dealFrom_32 : decode cX2_dealFrom 32 = .ok (.iload_n 3, 1) := by decide +kernel
theorem dX2_dealFrom_33 : decode cX2_dealFrom 33 = .ok (.invokevirtual 36, 3) := by decide +kernel
theorem dX2_dealFrom_36 : decode cX2_dealFrom 36 = .ok (.goto 81, 3) := by decide +kernel
theorem dX2_dealFrom_39 : decode cX2_dealFrom 39 = .ok (.iconst 0, 1) := by decide +kernel
theorem dX2_dealFrom_40 : decode cX2_dealFrom 40 = .ok (.istore 4, 2) := by decide +kernel
theorem dX2_dealFrom_42 : decode cX2_dealFrom 42 = .ok (.iload 4, 2) := by decide +kernel
theorem dX2_dealFrom_44 : decode cX2_dealFrom 44 = .ok (.aload_n 0, 1) := by decide +kernel
theorem dX2_dealFrom_45 : decode cX2_dealFrom 45 = .ok (.getfield 18, 3) := by decide +kernel
theorem dX2_dealFrom_48 : decode cX2_dealFrom 48 = .ok (.getfield 40, 3) := by decide +kernel
theorem dX2_dealFrom_51 : decode cX2_dealFrom 51 = .ok (.if_icmp .ge 66, 3) := by decide +kernel
theorem dX2_dealFrom_54 : decode cX2_dealFrom 54 = .ok (.aload_n 0, 1) := by decide +kernel
theorem dX2_dealFrom_55 : decode cX2_dealFrom 55 = .ok (.getfield 18, 3) := by decide +kernel
theorem dX2_dealFrom_58 : decode cX2_dealFrom 58 = .ok (.iload_n 1, 1) := by decide +kernel
theorem dX2_dealFrom_59 : decode cX2_dealFrom 59 = .ok (.aload_n 0, 1) := by decide +kernel
theorem dX2_dealFrom_60 : decode cX2_dealFrom 60 = .ok (.getfield 9, 3) := by decide +kernel
theorem dX2_dealFrom_63 : decode cX2_dealFrom 63 = .ok (.iload 4, 2) := by decide +kernel
theorem dX2_dealFrom_65 : decode cX2_dealFrom 65 = .ok (.iaload, 1) := by decide +kernel
theorem dX2_dealFrom_66 : decode cX2_dealFrom 66 = .ok (.invokevirtual 52, 3) := by decide +kernel
theorem dX2_dealFrom_69 : decode cX2_dealFrom 69 = .ok (.istore 5, 2) := by decide +kernel
theorem dX2_dealFrom_71 : decode cX2_dealFrom 71 = .ok (.aload_n 0, 1) := by decide +kernel
theorem dX2_dealFrom_72 : decode cX2_dealFrom 72 = .ok (.getfield 9, 3) := by decide +kernel
theorem dX2_dealFrom_75 : decode cX2_dealFrom 75 = .ok (.iload 4, 2) := by decide +kernel
theorem dX2_dealFrom_77 : decode cX2_dealFrom 77 = .ok (.dup2, 1) := by decide +kernel
theorem dX2_dealFrom_78 : decode cX2_dealFrom 78 = .ok (.iaload, 1) := by decide +kernel
theorem dX2_dealFrom_79 : decode cX2_dealFrom 79 = .ok (.iconst 1, 1) := by decide +kernel
theorem dX2_dealFrom_80 : decode cX2_dealFrom 80 = .ok (.iload_n 1, 1) := by decide +kernel
theorem dX2_dealFrom_81 : decode cX2_dealFrom 81 = .ok (.ishl, 1) := by decide +kernel
theorem dX2_dealFrom_82 : decode cX2_dealFrom 82 = .ok (.ior, 1) := by decide +kernel
theorem dX2_dealFrom_83 : decode cX2_dealFrom 83 = .ok (.iastore, 1) := by decide +kernel
theorem dX2_dealFrom_84 : decode cX2_dealFrom 84 = .ok (.aload_n 0, 1) := by decide +kernel
theorem dX2_dealFrom_85 : decode cX2_dealFrom 85 = .ok (.iload_n 1, 1) := by decide +kernel
theorem dX2_dealFrom_86 : decode cX2_dealFrom 86 = .ok (.iconst 1, 1) := by decide +kernel
theorem dX2_dealFrom_87 : decode cX2_dealFrom 87 = .ok (.iadd, 1) := by decide +kernel
theorem dX2_dealFrom_88 : decode cX2_dealFrom 88 = .ok (.iload_n 2, 1) := by decide +kernel
theorem dX2_dealFrom_89 : decode cX2_dealFrom 89 = .ok (.iload_n 3, 1) := by decide +kernel
theorem dX2_dealFrom_90 : decode cX2_dealFrom 90 = .ok (.iload 5, 2) := by decide +kernel
theorem dX2_dealFrom_92 : decode cX2_dealFrom 92 = .ok (.iadd, 1) := by decide +kernel
theorem dX2_dealFrom_93 : decode cX2_dealFrom 93 = .ok (.invokevirtual 36, 3) := by decide +kernel
theorem dX2_dealFrom_96 : decode cX2_dealFrom 96 = .ok (.aload_n 0, 1) := by decide +kernel
theorem dX2_dealFrom_97 : decode cX2_dealFrom 97 = .ok (.getfield 9, 3) := by decide +kernel
theorem dX2_dealFrom_100 : decode cX2_dealFrom 100 = .ok (.iload 4, 2) := by decide +kernel
theorem dX2_dealFrom_102 : decode cX2_dealFrom 102 = .ok (.dup2, 1) := by decide +kernel
theorem dX2_dealFrom_103 : decode cX2_dealFrom 103 = .ok (.iaload, 1) := by decide +kernel
theorem dX2_dealFrom_104 : decode cX2_dealFrom 104 = .ok (.iconst 1, 1) := by decide +kernel
theorem dX2_dealFrom_105 : decode cX2_dealFrom 105 = .ok (.iload_n 1, 1) := by decide +kernel
theorem dX2_dealFrom_106 : decode cX2_dealFrom 106 = .ok (.ishl, 1) := by decide +kernel
theorem dX2_dealFrom_107 : decode cX2_dealFrom 107 = .ok (.iconst (-1), 1) := by decide +kernel
theorem dX2_dealFrom_108 : decode cX2_dealFrom 108 = .ok (.ixor, 1) := by decide +kernel
theorem dX2_dealFrom_109 : decode cX2_dealFrom 109 = .ok (.iand, 1) := by decide +kernel
theorem dX2_dealFrom_110 : decode cX2_dealFrom 110 = .ok (.iastore, 1) := by decide +kernel
theorem dX2_dealFrom_111 : decode cX2_dealFrom 111 = .ok (.iinc 4 1, 3) := by decide +kernel
theorem dX2_dealFrom_114 : decode cX2_dealFrom 114 = .ok (.goto (-72), 3) := by decide +kernel
theorem dX2_dealFrom_117 : decode cX2_dealFrom 117 = .ok (.return_, 1) := by decide +kernel
theorem dX2_weigh_0 : decode cX2_weigh 0 = .ok (.iconst 0, 1) := by decide +kernel
theorem dX2_weigh_1 : decode cX2_weigh 1 = .ok (.istore_n 2, 1) := by decide +kernel
theorem dX2_weigh_2 : decode cX2_weigh 2 = .ok (.iconst 0, 1) := by decide +kernel
theorem dX2_weigh_3 : decode cX2_weigh 3 = .ok (.istore_n 3, 1) := by decide +kernel
theorem dX2_weigh_4 : decode cX2_weigh 4 = .ok (.iload_n 3, 1) := by decide +kernel
theorem dX2_weigh_5 : decode cX2_weigh 5 = .ok (.aload_n 0, 1) := by decide +kernel
theorem dX2_weigh_6 : decode cX2_weigh 6 = .ok (.getfield 18, 3) := by decide +kernel
theorem dX2_weigh_9 : decode cX2_weigh 9 = .ok (.getfield 40, 3) := by decide +kernel
theorem dX2_weigh_12 : decode cX2_weigh 12 = .ok (.if_icmp .ge 37, 3) := by decide +kernel
theorem dX2_weigh_15 : decode cX2_weigh 15 = .ok (.aload_n 0, 1) := by decide +kernel
theorem dX2_weigh_16 : decode cX2_weigh 16 = .ok (.getfield 22, 3) := by decide +kernel
theorem dX2_weigh_19 : decode cX2_weigh 19 = .ok (.iload_n 3, 1) := by decide +kernel
theorem dX2_weigh_20 : decode cX2_weigh 20 = .ok (.aload_n 0, 1) := by decide +kernel
theorem dX2_weigh_21 : decode cX2_weigh 21 = .ok (.getfield 9, 3) := by decide +kernel
theorem dX2_weigh_24 : decode cX2_weigh 24 = .ok (.iload_n 3, 1) := by decide +kernel
theorem dX2_weigh_25 : decode cX2_weigh 25 = .ok (.iaload, 1) := by decide +kernel
theorem dX2_weigh_26 : decode cX2_weigh 26 = .ok (.invokevirtual 56, 3) := by decide +kernel
theorem dX2_weigh_29 : decode cX2_weigh 29 = .ok (.istore 4, 2) := by decide +kernel
theorem dX2_weigh_31 : decode cX2_weigh 31 = .ok (.iload 4, 2) := by decide +kernel
theorem dX2_weigh_33 : decode cX2_weigh 33 = .ok (.iconst (-1), 1) := by decide +kernel
theorem dX2_weigh_34 : decode cX2_weigh 34 = .ok (.if_icmp .ne 4, 3) := by decide +kernel
theorem dX2_weigh_37 : decode cX2_weigh 37 = .ok (.return_, 1) := by decide +kernel
theorem dX2_weigh_38 : decode cX2_weigh 38 = .ok (.iload_n 2, 1) := by decide +kernel
theorem dX2_weigh_39 : decode cX2_weigh 39 = .ok (.iload 4, 2) := by decide +kernel
theorem dX2_weigh_41 : decode cX2_weigh 41 = .ok (.iadd, 1) := by decide +kernel
theorem dX2_weigh_42 : decode cX2_weigh 42 = .ok (.istore_n 2, 1) := by decide +kernel
theorem dX2_weigh_43 : decode cX2_weigh 43 = .ok (.iinc 3 1, 3) := by decide +kernel
theorem dX2_weigh_46 : decode cX2_weigh 46 = .ok (.goto (-42), 3) := by decide +kernel
theorem dX2_weigh_49 : decode cX2_weigh 49 = .ok (.iload_n 2, 1) := by decide +kernel
theorem dX2_weigh_50 : decode cX2_weigh 50 = .ok (.aload_n 0, 1) := by decide +kernel
theorem dX2_weigh_51 : decode cX2_weigh 51 = .ok (.getfield 59, 3) := by decide +kernel
theorem dX2_weigh_54 : decode cX2_weigh 54 = .ok (.if_icmp .lt 19, 3) := by decide +kernel
theorem dX2_weigh_57 : decode cX2_weigh 57 = .ok (.iload_n 2, 1) := by decide +kernel
theorem dX2_weigh_58 : decode cX2_weigh 58 = .ok (.aload_n 0, 1) := by decide +kernel
theorem dX2_weigh_59 : decode cX2_weigh 59 = .ok (.getfield 59, 3) := by decide +kernel
theorem dX2_weigh_62 : decode cX2_weigh 62 = .ok (.if_icmp .ne 15, 3) := by decide +kernel
theorem dX2_weigh_65 : decode cX2_weigh 65 = .ok (.iload_n 1, 1) := by decide +kernel
theorem dX2_weigh_66 : decode cX2_weigh 66 = .ok (.aload_n 0, 1) := by decide +kernel
theorem dX2_weigh_67 : decode cX2_weigh 67 = .ok (.getfield 62, 3) := by decide +kernel
theorem dX2_weigh_70 : decode cX2_weigh 70 = .ok (.if_icmp .le 7, 3) := by decide +kernel
theorem dX2_weigh_73 : decode cX2_weigh 73 = .ok (.iconst 1, 1) := by decide +kernel
theorem dX2_weigh_74 : decode cX2_weigh 74 = .ok (.goto 4, 3) := by decide +kernel
theorem dX2_weigh_77 : decode cX2_weigh 77 = .ok (.iconst 0, 1) := by decide +kernel
theorem dX2_weigh_78 : decode cX2_weigh 78 = .ok (.istore_n 3, 1) := by decide +kernel
theorem dX2_weigh_79 : decode cX2_weigh 79 = .ok (.aload_n 0, 1) := by decide +kernel
theorem dX2_weigh_80 : decode cX2_weigh 80 = .ok (.getfield 26, 3) := by decide +kernel
theorem dX2_weigh_83 : decode cX2_weigh 83 = .ok (.ifCond .eq 7, 3) := by decide +kernel
theorem dX2_weigh_86 : decode cX2_weigh 86 = .ok (.iload_n 3, 1) := by decide +kernel
theorem dX2_weigh_87 : decode cX2_weigh 87 = .ok (.ifCond .eq 29, 3) := by decide +kernel
theorem dX2_weigh_90 : decode cX2_weigh 90 = .ok (.aload_n 0, 1) := by decide +kernel
theorem dX2_weigh_91 : decode cX2_weigh 91 = .ok (.iconst 1, 1) := by decide +kernel
theorem dX2_weigh_92 : decode cX2_weigh 92 = .ok (.putfield 26, 3) := by decide +kernel
theorem dX2_weigh_95 : decode cX2_weigh 95 = .ok (.aload_n 0, 1) := by decide +kernel
theorem dX2_weigh_96 : decode cX2_weigh 96 = .ok (.iload_n 2, 1) := by decide +kernel
theorem dX2_weigh_97 : decode cX2_weigh 97 = .ok (.putfield 59, 3) := by decide +kernel
theorem dX2_weigh_100 : decode cX2_weigh 100 = .ok (.aload_n 0, 1) := by decide +kernel
theorem dX2_weigh_101 : decode cX2_weigh 101 = .ok (.iload_n 1, 1) := by decide +kernel
theorem dX2_weigh_102 : decode cX2_weigh 102 = .ok (.putfield 62, 3) := by decide +kernel
theorem dX2_weigh_105 : decode cX2_weigh 105 = .ok (.aload_n 0, 1) := by decide +kernel
theorem dX2_weigh_106 : decode cX2_weigh 106 = .ok (.getfield 9, 3) := by decide +kernel
theorem dX2_weigh_109 : decode cX2_weigh 109 = .ok (.aload_n 0, 1) := by decide +kernel
theorem dX2_weigh_110 : decode cX2_weigh 110 = .ok (.getfield 15, 3) := by decide +kernel
theorem dX2_weigh_113 : decode cX2_weigh 113 = .ok (.invokestatic 65, 3) := by decide +kernel
theorem dX2_weigh_116 : decode cX2_weigh 116 = .ok (.return_, 1) := by decide +kernel
end
section
theorem dX3_init_0 : decode cX3_init 0 = .ok (.aload_n 0, 1) := by decide +kernel
theorem dX3_init_1 : decode cX3_init 1 = .ok (.invokespecial 3, 3) := by decide +kernel
theorem dX3_init_4 : decode cX3_init 4 = .ok (.aload_n 0, 1) := by decide +kernel
theorem dX3_init_5 : decode cX3_init 5 = .ok (.iconst 3, 1) := by decide +kernel
theorem dX3_init_6 : decode cX3_init 6 = .ok (.newarray .int, 2) := by decide +kernel
theorem dX3_init_8 : decode cX3_init 8 = .ok (.putfield 9, 3) := by decide +kernel
theorem dX3_init_11 : decode cX3_init 11 = .ok (.aload_n 0, 1) := by decide +kernel
theorem dX3_init_12 : decode cX3_init 12 = .ok (.bipush 18, 2) := by decide +kernel
theorem dX3_init_14 : decode cX3_init 14 = .ok (.newarray .int, 2) := by decide +kernel
theorem dX3_init_16 : decode cX3_init 16 = .ok (.putfield 15, 3) := by decide +kernel
theorem dX3_init_19 : decode cX3_init 19 = .ok (.aload_n 0, 1) := by decide +kernel
theorem dX3_init_20 : decode cX3_init 20 = .ok (.bipush 6, 2) := by decide +kernel
theorem dX3_init_22 : decode cX3_init 22 = .ok (.newarray .int, 2) := by decide +kernel
theorem dX3_init_24 : decode cX3_init 24 = .ok (.putfield 18, 3) := by decide +kernel
theorem dX3_init_27 : decode cX3_init 27 = .ok (.aload_n 0, 1) := by decide +kernel
theorem dX3_init_28 : decode cX3_init 28 = .ok (.bipush 6, 2) := by decide +kernel
theorem dX3_init_30 : decode cX3_init 30 = .ok (.newarray .int, 2) := by decide +kernel
theorem dX3_init_32 : decode cX3_init 32 = .ok (.putfield 21, 3) := by decide +kernel
theorem dX3_init_35 : decode cX3_init 35 = .ok (.aload_n 0, 1) := by decide +kernel
theorem dX3_init_36 : decode cX3_init 36 = .ok (.bipush 6, 2) := by decide +kernel
theorem dX3_init_38 : decode cX3_init 38 = .ok (.newarray .int, 2) := by decide +kernel
theorem dX3_init_40 : decode cX3_init 40 = .ok (.putfield 24, 3) := by decide +kernel
theorem dX3_init_43 : decode cX3_init 43 = .ok (.aload_n 0, 1) := by decide +kernel
theorem dX3_init_44 : decode cX3_init 44 = .ok (.bipush 6, 2) := by decide +kernel
theorem dX3_init_46 : decode cX3_init 46 = .ok (.newarray .int, 2) := by decide +kernel
theorem dX3_init_48 : decode cX3_init 48 = .ok (.putfield 27, 3) := by decide +kernel
theorem dX3_init_51 : decode cX3_init 51 = .ok (.aload_n 0, 1) := by decide +kernel
theorem dX3_init_52 : decode cX3_init 52 = .ok (.bipush 36, 2) := by decide +kernel
theorem dX3_init_54 : decode cX3_init 54 = .ok (.newarray .int, 2) := by decide +kernel
theorem dX3_init_56 : decode cX3_init 56 = .ok (.putfield 30, 3) := by decide +kernel
theorem dX3_init_59 : decode cX3_init 59 = .ok (.return_, 1) := by decide +kernel
theorem dX3_clearAll_0 : decode cX3_clearAll 0 = .ok (.aload_n 0, 1) := by decide +kernel
theorem dX3_clearAll_1 : decode cX3_clearAll 1 = .ok (.iconst 0, 1) := by decide +kernel
theorem dX3_clearAll_2 : decode cX3_clearAll 2 = .ok (.putfield 33, 3) := by decide +kernel
theorem dX3_clearAll_5 : decode cX3_clearAll 5 = .ok (.aload_n 0, 1) := by decide +kernel
theorem dX3_clearAll_6 : decode cX3_clearAll 6 = .ok (.iconst 0, 1) := by decide +kernel
theorem dX3_clearAll_7 : decode cX3_clearAll 7 = .ok (.putfield 37, 3) := by decide +kernel
theorem dX3_clearAll_10 : decode cX3_clearAll 10 = .ok (.aload_n 0, 1) := by decide +kernel
theorem dX3_clearAll_11 : decode cX3_clearAll 11 = .ok (.iconst 0, 1) := by decide +kernel
theorem dX3_clearAll_12 : decode cX3_clearAll 12 = .ok (.putfield 40, 3) := by decide +kernel
theorem dX3_clearAll_15 : decode cX3_clearAll 15 = .ok (.iconst 0, 1) := by decide +kernel
theorem dX3_clearAll_16 : decode cX3_clearAll 16 = .ok (.istore_n 1, 1) := by decide +kernel
theorem dX3_clearAll_17 : decode cX3_clearAll 17 = .ok (.iload_n 1, 1) := by decide +kernel
theorem dX3_clearAll_18 : decode cX3_clearAll 18 = .ok (.aload_n 0, 1) := by decide +kernel
theorem dX3_clearAll_19 : decode cX3_clearAll 19 = .ok (.getfield 30, 3) := by decide +kernel
theorem dX3_clearAll_22 : decode cX3_clearAll 22 = .ok (.arraylength, 1) := by decide +kernel
theorem dX3_clearAll_23 : decode cX3_clearAll 23 = .ok (.if_icmp .ge 16, 3) := by decide +kernel
theorem dX3_clearAll_26 : decode cX3_clearAll 26 = .ok (.aload_n 0, 1) := by decide +kernel
theorem dX3_clearAll_27 : decode cX3_clearAll 27 = .ok (.getfield 30, 3) := by decide +kernel
theorem dX3_clearAll_30 : decode cX3_clearAll 30 = .ok (.iload_n 1, 1) := by decide +kernel
theorem dX3_clearAll_31 : decode cX3_clearAll 31 = .ok (.iconst 0, 1) := by decide +kernel
theorem dX3_clearAll_32 : decode cX3_clearAll 32 = .ok (.iastore, 1) := by decide +kernel
theorem dX3_clearAll_33 : decode cX3_clearAll 33 = .ok (.iinc 1 1, 3) := by decide +kernel
theorem dX3_clearAll_36 : decode cX3_clearAll 36 = .ok (.goto (-19), 3) := by decide +kernel
theorem dX3_clearAll_39 : decode cX3_clearAll 39 = .ok (.return_, 1) := by decide +kernel
theorem dX3_copyFrom_0 : decode cX3_copyFrom 0 = .ok (.aload_n 0, 1) := by decide +kernel
theorem dX3_copyFrom_1 : decode cX3_copyFrom 1 = .ok (.aload_n 1, 1) := by decide +kernel
theorem dX3_copyFrom_2 : decode cX3_copyFrom 2 = .ok (.getfield 33, 3) := by decide +kernel
theorem dX3_copyFrom_5 : decode cX3_copyFrom 5 = .ok (.putfield 33, 3) := by decide +kernel
theorem dX3_copyFrom_8 : decode cX3_copyFrom 8 = .ok (.aload_n 0, 1) := by decide +kernel
theorem dX3_copyFrom_9 : decode cX3_copyFrom 9 = .ok (.aload_n 1, 1) := by decide +kernel
theorem dX3_copyFrom_10 : decode cX3_copyFrom 10 = .ok (.getfield 37, 3) := by decide +kernel
theorem dX3_copyFrom_13 : decode cX3_copyFrom 13 = .ok (.putfield 37, 3) := by decide +kernel
theorem dX3_copyFrom_16 : decode cX3_copyFrom 16 = .ok (.aload_n 0, 1) := by decide +kernel
theorem dX3_copyFrom_17 : decode cX3_copyFrom 17 = .ok (.aload_n 1, 1) := by decide +kernel
theorem dX3_copyFrom_18 : decode cX3_copyFrom 18 = .ok (.getfield 40, 3) := by decide +kernel
theorem dX3_copyFrom_21 : decode cX3_copyFrom 21 = .ok (.putfield 40, 3) := by decide +kernel
theorem dX3_copyFrom_24 : decode cX3_copyFrom 24 = .ok (.aload_n 1, 1) := by decide +kernel
theorem dX3_copyFrom_25 : decode cX3_copyFrom 25 = .ok (.getfield 9, 3) := by decide +kernel
theorem dX3_copyFrom_28 : decode cX3_copyFrom 28 = .ok (.aload_n 0, 1) := by decide +kernel
theorem dX3_copyFrom_29 : decode cX3_copyFrom 29 = .ok (.getfield 9, 3) := by decide +kernel
theorem dX3_copyFrom_32 : decode cX3_copyFrom 32 = .ok (.invokestatic 43, 3) := by decide +kernel
theorem dX3_copyFrom_35 : decode cX3_copyFrom 35 = .ok (.aload_n 1, 1) := by decide +kernel
theorem dX3_copyFrom_36 : decode cX3_copyFrom 36 = .ok (.getfield 15, 3) := by decide +kernel
theorem dX3_copyFrom_39 : decode cX3_copyFrom 39 = .ok (.aload_n 0, 1) := by decide +kernel
theorem dX3_copyFrom_40 : decode cX3_copyFrom 40 = .ok (.getfield 15, 3) := by decide +kernel
theorem dX3_copyFrom_43 : decode cX3_copyFrom 43 = .ok (.invokestatic 43, 3) := by decide +kernel
theorem dX3_copyFrom_46 : decode cX3_copyFrom 46 = .ok (.aload_n 1, 1) := by decide +kernel
theorem dX3_copyFrom_47 : decode cX3_copyFrom 47 = .ok (.getfield 18, 3) := by decide +kernel
theorem dX3_copyFrom_50 : decode cX3_copyFrom 50 = .ok (.aload_n 0, 1) := by decide +kernel
theorem dX3_copyFrom_51 : decode cX3_copyFrom 51 = .ok (.getfield 18, 3) := by decide +kernel
theorem dX3_copyFrom_54 : decode cX3_copyFrom 54 = .ok (.invokestatic 43, 3) := by decide +kernel
theorem dX3_copyFrom_57 : decode cX3_copyFrom 57 = .ok (.aload_n 1, 1) := by decide +kernel
theorem dX3_copyFrom_58 : decode cX3_copyFrom 58 = .ok (.getfield 21, 3) := by decide +kernel
theorem dX3_copyFrom_61 : decode cX3_copyFrom 61 = .ok (.aload_n 0, 1) := by decide +kernel
theorem dX3_copyFrom_62 : decode cX3_copyFrom 62 = .ok (.getfield 21, 3) := by decide +kernel
theorem dX3_copyFrom_65 : decode cX3_copyFrom 65 = .ok (.invokestatic 43, 3) := by decide +kernel
theorem dX3_copyFrom_68 : decode cX3_copyFrom 68 = .ok (.aload_n 1, 1) := by decide +kernel
theorem dX3_copyFrom_69 : decode cX3_copyFrom 69 = .ok (.getfield 24, 3) := by decide +kernel
theorem dX3_copyFrom_72 : decode cX3_copyFrom 72 = .ok (.aload_n 0, 1) := by decide +kernel
theorem dX3_copyFrom_73 : decode cX3_copyFrom 73 = .ok (.getfield 24, 3) := by decide +kernel
theorem dX3_copyFrom_76 : decode cX3_copyFrom 76 = .ok (.invokestatic 43, 3) := by decide +kernel
theorem dX3_copyFrom_79 : decode cX3_copyFrom 79 = .ok (.aload_n 1, 1) := by decide +kernel
theorem dX3_copyFrom_80 : decode cX3_copyFrom 80 = .ok (.getfield 27, 3) := by decide +kernel
theorem dX3_copyFrom_83 : decode cX3_copyFrom 83 = .ok (.aload_n 0, 1) := by decide +kernel
theorem dX3_copyFrom_84 : decode cX3_copyFrom 84 = .ok (.getfield 27, 3) := by decide +kernel
theorem dX3_copyFrom_87 : decode cX3_copyFrom 87 = .ok (.invokestatic 43, 3) := by decide +kernel
theorem dX3_copyFrom_90 : decode cX3_copyFrom 90 = .ok (.aload_n 1, 1) := by decide +kernel
theorem dX3_copyFrom_91 : decode cX3_copyFrom 91 = .ok (.getfield 30, 3) := by decide +kernel
theorem dX3_copyFrom_94 : decode cX3_copyFrom 94 = .ok (.aload_n 0, 1) := by decide +kernel
theorem dX3_copyFrom_95 : decode cX3_copyFrom 95 = .ok (.getfield 30, 3) := by decide +kernel
theorem dX3_copyFrom_98 : decode cX3_copyFrom 98 = .ok (.invokestatic 43, 3) := by decide +kernel
theorem dX3_copyFrom_101 : decode cX3_copyFrom 101 = .ok (.return_, 1) := by decide +kernel
theorem dX3_hasRoom_0 : decode cX3_hasRoom 0 = .ok (.iload_n 1, 1) := by decide +kernel
theorem dX3_hasRoom_1 : decode cX3_hasRoom 1 = .ok (.ifCond .lt 15, 3) := by decide +kernel
theorem dX3_hasRoom_4 : decode cX3_hasRoom 4 = .ok (.iload_n 1, 1) := by decide +kernel
theorem dX3_hasRoom_5 : decode cX3_hasRoom 5 = .ok (.aload_n 0, 1) := by decide +kernel
theorem dX3_hasRoom_6 : decode cX3_hasRoom 6 = .ok (.getfield 33, 3) := by decide +kernel
theorem dX3_hasRoom_9 : decode cX3_hasRoom 9 = .ok (.if_icmp .ge 7, 3) := by decide +kernel
theorem dX3_hasRoom_12 : decode cX3_hasRoom 12 = .ok (.iconst 1, 1) := by decide +kernel
theorem dX3_hasRoom_13 : decode cX3_hasRoom 13 = .ok (.goto 4, 3) := by decide +kernel
theorem dX3_hasRoom_16 : decode cX3_hasRoom 16 = .ok (.iconst 0, 1) := by decide +kernel
theorem dX3_hasRoom_17 : decode cX3_hasRoom 17 = .ok (.ireturn, 1) := by decide +kernel
theorem dX3_hasPlace_0 : decode cX3_hasPlace 0 = .ok (.iload_n 1, 1) := by decide +kernel
theorem dX3_hasPlace_1 : decode cX3_hasPlace 1 = .ok (.ifCond .lt 29, 3) := by decide +kernel
theorem dX3_hasPlace_4 : decode cX3_hasPlace 4 = .ok (.iload_n 1, 1) := by decide +kernel
theorem dX3_hasPlace_5 : decode cX3_hasPlace 5 = .ok (.aload_n 0, 1) := by decide +kernel
theorem dX3_hasPlace_6 : decode cX3_hasPlace 6 = .ok (.getfield 33, 3) := by decide +kernel
theorem dX3_hasPlace_9 : decode cX3_hasPlace 9 = .ok (.if_icmp .ge 21, 3) := by decide +kernel
theorem dX3_hasPlace_12 : decode cX3_hasPlace 12 = .ok (.iload_n 2, 1) := by decide +kernel
theorem dX3_hasPlace_13 : decode cX3_hasPlace 13 = .ok (.ifCond .lt 17, 3) := by decide +kernel
theorem dX3_hasPlace_16 : decode cX3_hasPlace 16 = .ok (.iload_n 2, 1) := by decide +kernel
theorem dX3_hasPlace_17 : decode cX3_hasPlace 17 = .ok (.aload_n 0, 1) := by decide +kernel
theorem dX3_hasPlace_18 : decode cX3_hasPlace 18 = .ok (.getfield 9, 3) := by decide +kernel
theorem dX3_hasPlace_21 : decode cX3_hasPlace 21 = .ok (.iload_n 1, 1) := by decide +kernel
theorem dX3_hasPlace_22 : decode cX3_hasPlace 22 = .ok (.iaload, 1) := by decide +kernel
theorem dX3_hasPlace_23 : decode cX3_hasPlace 23 = .ok (.if_icmp .ge 7, 3) := by decide +kernel
theorem dX3_hasPlace_26 : decode cX3_hasPlace 26 = .ok (.iconst 1, 1) := by decide +kernel
theorem dX3_hasPlace_27 : decode cX3_hasPlace 27 = .ok (.goto 4, 3) := by decide +kernel
theorem dX3_hasPlace_30 : decode cX3_hasPlace 30 = .ok (.iconst 0, 1) := by decide +kernel
theorem dX3_hasPlace_31 : decode cX3_hasPlace 31 = .ok (.ireturn, 1) := by decide +kernel
theorem dX3_hasPerson_0 : decode cX3_hasPerson 0 = .ok (.iload_n 1, 1) := by decide +kernel
theorem dX3_hasPerson_1 : decode cX3_hasPerson 1 = .ok (.ifCond .lt 15, 3) := by decide +kernel
theorem dX3_hasPerson_4 : decode cX3_hasPerson 4 = .ok (.iload_n 1, 1) := by decide +kernel
theorem dX3_hasPerson_5 : decode cX3_hasPerson 5 = .ok (.aload_n 0, 1) := by decide +kernel
theorem dX3_hasPerson_6 : decode cX3_hasPerson 6 = .ok (.getfield 37, 3) := by decide +kernel
theorem dX3_hasPerson_9 : decode cX3_hasPerson 9 = .ok (.if_icmp .ge 7, 3) := by decide +kernel
theorem dX3_hasPerson_12 : decode cX3_hasPerson 12 = .ok (.iconst 1, 1) := by decide +kernel
theorem dX3_hasPerson_13 : decode cX3_hasPerson 13 = .ok (.goto 4, 3) := by decide +kernel
theorem dX3_hasPerson_16 : decode cX3_hasPerson 16 = .ok (.iconst 0, 1) := by decide +kernel
theorem dX3_hasPerson_17 : decode cX3_hasPerson 17 = .ok (.ireturn, 1) := by decide +kernel
theorem dX3_hasAll_0 : decode cX3_hasAll 0 = .ok (.iload_n 1, 1) := by decide +kernel
theorem dX3_hasAll_1 : decode cX3_hasAll 1 = .ok (.aload_n 0, 1) := by decide +kernel
theorem dX3_hasAll_2 : decode cX3_hasAll 2 = .ok (.getfield 37, 3) := by decide +kernel
theorem dX3_hasAll_5 : decode cX3_hasAll 5 = .ok (.iushr, 1) := by decide +kernel
theorem dX3_hasAll_6 : decode cX3_hasAll 6 = .ok (.ifCond .ne 7, 3) := by decide +kernel
theorem dX3_hasAll_9 : decode cX3_hasAll 9 = .ok (.iconst 1, 1) := by decide +kernel
theorem dX3_hasAll_10 : decode cX3_hasAll 10 = .ok (.goto 4, 3) := by decide +kernel
theorem dX3_hasAll_13 : decode cX3_hasAll 13 = .ok (.iconst 0, 1) := by decide +kernel
theorem dX3_hasAll_14 : decode cX3_hasAll 14 = .ok (.ireturn, 1) := by decide +kernel
theorem dX3_placesOf_0 : decode cX3_placesOf 0 = .ok (.iload_n 1, 1) := by decide +kernel
theorem dX3_placesOf_1 : decode cX3_placesOf 1 = .ok (.ifCond .lt 20, 3) := by decide +kernel
theorem dX3_placesOf_4 : decode cX3_placesOf 4 = .ok (.iload_n 1, 1) := by decide +kernel
theorem dX3_placesOf_5 : decode cX3_placesOf 5 = .ok (.aload_n 0, 1) := by decide +kernel
theorem dX3_placesOf_6 : decode cX3_placesOf 6 = .ok (.getfield 33, 3) := by decide +kernel
theorem dX3_placesOf_9 : decode cX3_placesOf 9 = .ok (.if_icmp .ge 12, 3) := by decide +kernel
theorem dX3_placesOf_12 : decode cX3_placesOf 12 = .ok (.aload_n 0, 1) := by decide +kernel
theorem dX3_placesOf_13 : decode cX3_placesOf 13 = .ok (.getfield 9, 3) := by decide +kernel
theorem dX3_placesOf_16 : decode cX3_placesOf 16 = .ok (.iload_n 1, 1) := by decide +kernel
theorem dX3_placesOf_17 : decode cX3_placesOf 17 = .ok (.iaload, 1) := by decide +kernel
theorem dX3_placesOf_18 : decode cX3_placesOf 18 = .ok (.goto 4, 3) := by decide +kernel
theorem dX3_placesOf_21 : decode cX3_placesOf 21 = .ok (.iconst 0, 1) := by decide +kernel
theorem dX3_placesOf_22 : decode cX3_placesOf 22 = .ok (.ireturn, 1) := by decide +kernel
theorem dX3_floorAt_0 : decode cX3_floorAt 0 = .ok (.iload_n 1, 1) := by decide +kernel
theorem dX3_floorAt_1 : decode cX3_floorAt 1 = .ok (.ifCond .lt 29, 3) := by decide +kernel
theorem dX3_floorAt_4 : decode cX3_floorAt 4 = .ok (.iload_n 1, 1) := by decide +kernel
theorem dX3_floorAt_5 : decode cX3_floorAt 5 = .ok (.aload_n 0, 1) := by decide +kernel
theorem dX3_floorAt_6 : decode cX3_floorAt 6 = .ok (.getfield 33, 3) := by decide +kernel
theorem dX3_floorAt_9 : decode cX3_floorAt 9 = .ok (.if_icmp .ge 21, 3) := by decide +kernel
theorem dX3_floorAt_12 : decode cX3_floorAt 12 = .ok (.iload_n 2, 1) := by decide +kernel
theorem dX3_floorAt_13 : decode cX3_floorAt 13 = .ok (.ifCond .lt 17, 3) := by decide +kernel
theorem dX3_floorAt_16 : decode cX3_floorAt 16 = .ok (.iload_n 2, 1) := by decide +kernel
theorem dX3_floorAt_17 : decode cX3_floorAt 17 = .ok (.aload_n 0, 1) := by decide +kernel
theorem dX3_floorAt_18 : decode cX3_floorAt 18 = .ok (.getfield 9, 3) := by decide +kernel
theorem dX3_floorAt_21 : decode cX3_floorAt 21 = .ok (.iload_n 1, 1) := by decide +kernel
theorem dX3_floorAt_22 : decode cX3_floorAt 22 = .ok (.iaload, 1) := by decide +kernel
theorem dX3_floorAt_23 : decode cX3_floorAt 23 = .ok (.if_icmp .ge 7, 3) := by decide +kernel
theorem dX3_floorAt_26 : decode cX3_floorAt 26 = .ok (.iconst 1, 1) := by decide +kernel
theorem dX3_floorAt_27 : decode cX3_floorAt 27 = .ok (.goto 4, 3) := by decide +kernel
theorem dX3_floorAt_30 : decode cX3_floorAt 30 = .ok (.iconst 0, 1) := by decide +kernel
theorem dX3_floorAt_31 : decode cX3_floorAt 31 = .ok (.istore_n 3, 1) := by decide +kernel
theorem dX3_floorAt_32 : decode cX3_floorAt 32 = .ok (.iload_n 3, 1) := by decide +kernel
theorem dX3_floorAt_33 : decode cX3_floorAt 33 = .ok (.ifCond .eq 17, 3) := by decide +kernel
theorem dX3_floorAt_36 : decode cX3_floorAt 36 = .ok (.aload_n 0, 1) := by decide +kernel
theorem dX3_floorAt_37 : decode cX3_floorAt 37 = .ok (.getfield 15, 3) := by decide +kernel
theorem dX3_floorAt_40 : decode cX3_floorAt 40 = .ok (.iload_n 1, 1) := by decide +kernel
theorem dX3_floorAt_41 : decode cX3_floorAt 41 = .ok (.bipush 6, 2) := by decide +kernel
theorem dX3_floorAt_43 : decode cX3_floorAt 43 = .ok (.imul, 1) := by decide +kernel
theorem dX3_floorAt_44 : decode cX3_floorAt 44 = .ok (.iload_n 2, 1) := by decide +kernel
theorem dX3_floorAt_45 : decode cX3_floorAt 45 = .ok (.iadd, 1) := by decide +kernel
theorem dX3_floorAt_46 : decode cX3_floorAt 46 = .ok (.iaload, 1) := by decide +kernel
theorem dX3_floorAt_47 : decode cX3_floorAt 47 = .ok (.goto 4, 3) := by decide +kernel
theorem dX3_floorAt_50 : decode cX3_floorAt 50 = .ok (.iconst 0, 1) := by decide +kernel
theorem dX3_floorAt_51 : decode cX3_floorAt 51 = .ok (.ireturn, 1) := by decide +kernel
theorem dX3_friendship_0 : decode cX3_friendship 0 = .ok (.aload_n 0, 1) := by decide +kernel
theorem dX3_friendship_1 : decode cX3_friendship 1 = .ok (.iload_n 1, 1) := by decide +kernel
theorem dX3_friendship_2 : decode cX3_friendship 2 = .ok (.invokevirtual 47, 3) := by decide +kernel
theorem dX3_friendship_5 : decode cX3_friendship 5 = .ok (.ifCond .eq 25, 3) := by decide +kernel
theorem dX3_friendship_8 : decode cX3_friendship 8 = .ok (.aload_n 0, 1) := by decide +kernel
theorem dX3_friendship_9 : decode cX3_friendship 9 = .ok (.iload_n 2, 1) := by decide +kernel
theorem dX3_friendship_10 : decode cX3_friendship 10 = .ok (.invokevirtual 47, 3) := by decide +kernel
theorem dX3_friendship_13 : decode cX3_friendship 13 = .ok (.ifCond .eq 17, 3) := by decide +kernel
theorem dX3_friendship_16 : decode cX3_friendship 16 = .ok (.aload_n 0, 1) := by decide +kernel
theorem dX3_friendship_17 : decode cX3_friendship 17 = .ok (.getfield 30, 3) := by decide +kernel
theorem dX3_friendship_20 : decode cX3_friendship 20 = .ok (.iload_n 1, 1) := by decide +kernel
theorem dX3_friendship_21 : decode cX3_friendship 21 = .ok (.bipush 6, 2) := by decide +kernel
theorem dX3_friendship_23 : decode cX3_friendship 23 = .ok (.imul, 1) := by decide +kernel
theorem dX3_friendship_24 : decode cX3_friendship 24 = .ok (.iload_n 2, 1) := by decide +kernel
theorem dX3_friendship_25 : decode cX3_friendship 25 = .ok (.iadd, 1) := by decide +kernel
theorem dX3_friendship_26 : decode cX3_friendship 26 = .ok (.iaload, 1) := by decide +kernel
theorem dX3_friendship_27 : decode cX3_friendship 27 = .ok (.goto 4, 3) := by decide +kernel
theorem dX3_friendship_30 : decode cX3_friendship 30 = .ok (.iconst 0, 1) := by decide +kernel
theorem dX3_friendship_31 : decode cX3_friendship 31 = .ok (.ireturn, 1) := by decide +kernel
theorem dX3_friendshipWithAll_0 : decode cX3_friendshipWithAll 0 = .ok (.iconst 0, 1) := by decide +kernel
theorem dX3_friendshipWithAll_1 : decode cX3_friendshipWithAll 1 = .ok (.istore_n 3, 1) := by decide +kernel
theorem dX3_friendshipWithAll_2 : decode cX3_friendshipWithAll 2 = .ok (.iconst 0, 1) := by decide +kernel
theorem dX3_friendshipWithAll_3 : decode cX3_friendshipWithAll 3 = .ok (.istore 4, 2) := by decide +kernel
theorem dX3_friendshipWithAll_5 : decode cX3_friendshipWithAll 5 = .ok (.iload 4, 2) := by decide +kernel
theorem dX3_friendshipWithAll_7 : decode cX3_friendshipWithAll 7 = .ok (.aload_n 0, 1) := by decide +kernel
theorem dX3_friendshipWithAll_8 : decode cX3_friendshipWithAll 8 = .ok (.getfield 37, 3) := by decide +kernel
theorem dX3_friendshipWithAll_11 : decode cX3_friendshipWithAll 11 = .ok (.if_icmp .ge 28, 3) := by decide +kernel
theorem dX3_friendshipWithAll_14 : decode cX3_friendshipWithAll 14 = .ok (.iload_n 2, 1) := by decide +kernel
theorem dX3_friendshipWithAll_15 : decode cX3_friendshipWithAll 15 = .ok (.iload 4, 2) := by decide +kernel
theorem dX3_friendshipWithAll_17 : decode cX3_friendshipWithAll 17 = .ok (.ishr, 1) := by decide +kernel
theorem dX3_friendshipWithAll_18 : decode cX3_friendshipWithAll 18 = .ok (.iconst 1, 1) := by decide +kernel
theorem dX3_friendshipWithAll_19 : decode cX3_friendshipWithAll 19 = .ok (.iand, 1) := by decide +kernel
theorem dX3_friendshipWithAll_20 : decode cX3_friendshipWithAll 20 = .ok (.ifCond .eq 13, 3) := by decide +kernel
theorem dX3_friendshipWithAll_23 : decode cX3_friendshipWithAll 23 = .ok (.iload_n 3, 1) := by decide +kernel
theorem dX3_friendshipWithAll_24 : decode cX3_friendshipWithAll 24 = .ok (.aload_n 0, 1) := by decide +kernel
theorem dX3_friendshipWithAll_25 : decode cX3_friendshipWithAll 25 = .ok (.iload_n 1, 1) := by decide +kernel
theorem dX3_friendshipWithAll_26 : decode cX3_friendshipWithAll 26 = .ok (.iload 4, 2) := by decide +kernel
theorem dX3_friendshipWithAll_28 : decode cX3_friendshipWithAll 28 = .ok (.invokevirtual 51, 3) := by decide +kernel
theorem dX3_friendshipWithAll_31 : decode cX3_friendshipWithAll 31 = .ok (.iadd, 1) := by decide +kernel
theorem dX3_friendshipWithAll_32 : decode cX3_friendshipWithAll 32 = .ok (.istore_n 3, 1) := by decide +kernel
theorem dX3_friendshipWithAll_33 : decode cX3_friendshipWithAll 33 = .ok (.iinc 4 1, 3) := by decide +kernel
theorem dX3_friendshipWithAll_36 : decode cX3_friendshipWithAll 36 = .ok (.goto (-31), 3) := by decide +kernel
theorem dX3_friendshipWithAll_39 : decode cX3_friendshipWithAll 39 = .ok (.iload_n 3, 1) := by decide +kernel
theorem dX3_friendshipWithAll_40 : decode cX3_friendshipWithAll 40 = .ok (.ireturn, 1) := by decide +kernel
theorem dX4_init_0 : decode cX4_init 0 = .ok (.aload_n 0, 1) := by decide +kernel
theorem dX4_init_1 : decode cX4_init 1 = .ok (.invokespecial 5, 3) := by decide +kernel
theorem dX4_init_4 : decode cX4_init 4 = .ok (.aload_n 0, 1) := by decide +kernel
theorem dX4_init_5 : decode cX4_init 5 = .ok (.bipush 6, 2) := by decide +kernel
theorem dX4_init_7 : decode cX4_init 7 = .ok (.newarray .int, 2) := by decide +kernel
theorem dX4_init_9 : decode cX4_init 9 = .ok (.putfield 11, 3) := by decide +kernel
theorem dX4_init_12 : decode cX4_init 12 = .ok (.aload_n 0, 1) := by decide +kernel
theorem dX4_init_13 : decode cX4_init 13 = .ok (.bipush 6, 2) := by decide +kernel
theorem dX4_init_15 : decode cX4_init 15 = .ok (.newarray .int, 2) := by decide +kernel
theorem dX4_init_17 : decode cX4_init 17 = .ok (.putfield 15, 3) := by decide +kernel
theorem dX4_init_20 : decode cX4_init 20 = .ok (.aload_n 0, 1) := by decide +kernel
theorem dX4_init_21 : decode cX4_init 21 = .ok (.sipush 384, 3) := by decide +kernel
theorem dX4_init_24 : decode cX4_init 24 = .ok (.newarray .int, 2) := by decide +kernel
theorem dX4_init_26 : decode cX4_init 26 = .ok (.putfield 18, 3) := by decide +kernel
theorem dX4_init_29 : decode cX4_init 29 = .ok (.aload_n 0, 1) := by decide +kernel
theorem dX4_init_30 : decode cX4_init 30 = .ok (.bipush 6, 2) := by decide +kernel
theorem dX4_init_32 : decode cX4_init 32 = .ok (.newarray .int, 2) := by decide +kernel
theorem dX4_init_34 : decode cX4_init 34 = .ok (.putfield 21, 3) := by decide +kernel
theorem dX4_init_37 : decode cX4_init 37 = .ok (.aload_n 0, 1) := by decide +kernel
theorem dX4_init_38 : decode cX4_init 38 = .ok (.aload_n 1, 1) := by decide +kernel
theorem dX4_init_39 : decode cX4_init 39 = .ok (.putfield 24, 3) := by decide +kernel
theorem dX4_init_42 : decode cX4_init 42 = .ok (.aload_n 0, 1) := by decide +kernel
theorem dX4_init_43 : decode cX4_init 43 = .ok (.aload_n 2, 1) := by decide +kernel
theorem dX4_init_44 : decode cX4_init 44 = .ok (.putfield 28, 3) := by decide +kernel
theorem dX4_init_47 : decode cX4_init 47 = .ok (.return_, 1) := by decide +kernel
theorem dX4_forget_0 : decode cX4_forget 0 = .ok (.iconst 0, 1) := by decide +kernel
theorem dX4_forget_1 : decode cX4_forget 1 = .ok (.istore_n 1, 1) := by decide +kernel
theorem dX4_forget_2 : decode cX4_forget 2 = .ok (.iload_n 1, 1) := by decide +kernel
theorem dX4_forget_3 : decode cX4_forget 3 = .ok (.aload_n 0, 1) := by decide +kernel
theorem dX4_forget_4 : decode cX4_forget 4 = .ok (.getfield 18, 3) := by decide +kernel
theorem dX4_forget_7 : decode cX4_forget 7 = .ok (.arraylength, 1) := by decide +kernel
theorem dX4_forget_8 : decode cX4_forget 8 = .ok (.if_icmp .ge 17, 3) := by decide +kernel
theorem dX4_forget_11 : decode cX4_forget 11 = .ok (.aload_n 0, 1) := by decide +kernel
theorem dX4_forget_12 : decode cX4_forget 12 = .ok (.getfield 18, 3) := by decide +kernel
theorem dX4_forget_15 : decode cX4_forget 15 = .ok (.iload_n 1, 1) := by decide +kernel
theorem dX4_forget_16 : decode cX4_forget 16 = .ok (.bipush (-2), 2) := by decide +kernel
theorem dX4_forget_18 : decode cX4_forget 18 = .ok (.iastore, 1) := by decide +kernel
theorem dX4_forget_19 : decode cX4_forget 19 = .ok (.iinc 1 1, 3) := by decide +kernel
theorem dX4_forget_22 : decode cX4_forget 22 = .ok (.goto (-20), 3) := by decide +kernel
theorem dX4_forget_25 : decode cX4_forget 25 = .ok (.aload_n 0, 1) := by decide +kernel
theorem dX4_forget_26 : decode cX4_forget 26 = .ok (.getfield 28, 3) := by decide +kernel
theorem dX4_forget_29 : decode cX4_forget 29 = .ok (.getfield 32, 3) := by decide +kernel
theorem dX4_forget_32 : decode cX4_forget 32 = .ok (.aload_n 0, 1) := by decide +kernel
theorem dX4_forget_33 : decode cX4_forget 33 = .ok (.getfield 21, 3) := by decide +kernel
theorem dX4_forget_36 : decode cX4_forget 36 = .ok (.invokestatic 37, 3) := by decide +kernel
theorem dX4_forget_39 : decode cX4_forget 39 = .ok (.return_, 1) := by decide +kernel
theorem dX4_forgetIfGrown_0 : decode cX4_forgetIfGrown 0 = .ok (.iconst 0, 1) := by decide +kernel
theorem dX4_forgetIfGrown_1 : decode cX4_forgetIfGrown 1 = .ok (.istore_n 1, 1) := by decide +kernel
theorem dX4_forgetIfGrown_2 : decode cX4_forgetIfGrown 2 = .ok (.iload_n 1, 1) := by decide +kernel
theorem dX4_forgetIfGrown_3 : decode cX4_forgetIfGrown 3 = .ok (.bipush 6, 2) := by decide +kernel
theorem dX4_forgetIfGrown_5 : decode cX4_forgetIfGrown 5 = .ok (.if_icmp .ge 32, 3) := by decide +kernel
theorem dX4_forgetIfGrown_8 : decode cX4_forgetIfGrown 8 = .ok (.aload_n 0, 1) := by decide +kernel
theorem dX4_forgetIfGrown_9 : decode cX4_forgetIfGrown 9 = .ok (.getfield 28, 3) := by decide +kernel
theorem dX4_forgetIfGrown_12 : decode cX4_forgetIfGrown 12 = .ok (.getfield 32, 3) := by decide +kernel
theorem dX4_forgetIfGrown_15 : decode cX4_forgetIfGrown 15 = .ok (.iload_n 1, 1) := by decide +kernel
theorem dX4_forgetIfGrown_16 : decode cX4_forgetIfGrown 16 = .ok (.iaload, 1) := by decide +kernel
theorem dX4_forgetIfGrown_17 : decode cX4_forgetIfGrown 17 = .ok (.aload_n 0, 1) := by decide +kernel
theorem dX4_forgetIfGrown_18 : decode cX4_forgetIfGrown 18 = .ok (.getfield 21, 3) := by decide +kernel
theorem dX4_forgetIfGrown_21 : decode cX4_forgetIfGrown 21 = .ok (.iload_n 1, 1) := by decide +kernel
theorem dX4_forgetIfGrown_22 : decode cX4_forgetIfGrown 22 = .ok (.iaload, 1) := by decide +kernel
theorem dX4_forgetIfGrown_23 : decode cX4_forgetIfGrown 23 = .ok (.if_icmp .eq 8, 3) := by decide +kernel
theorem dX4_forgetIfGrown_26 : decode cX4_forgetIfGrown 26 = .ok (.aload_n 0, 1) := by decide +kernel
theorem dX4_forgetIfGrown_27 : decode cX4_forgetIfGrown 27 = .ok (.invokevirtual 41, 3) := by decide +kernel
theorem dX4_forgetIfGrown_30 : decode cX4_forgetIfGrown 30 = .ok (.return_, 1) := by decide +kernel
theorem dX4_forgetIfGrown_31 : decode cX4_forgetIfGrown 31 = .ok (.iinc 1 1, 3) := by decide +kernel
theorem dX4_forgetIfGrown_34 : decode cX4_forgetIfGrown 34 = .ok (.goto (-32), 3) := by decide +kernel
theorem dX4_forgetIfGrown_37 : decode cX4_forgetIfGrown 37 = .ok (.return_, 1) := by decide +kernel
theorem dX4_findSums_0 : decode cX4_findSums 0 = .ok (.aload_n 0, 1) := by decide +kernel
theorem dX4_findSums_1 : decode cX4_findSums 1 = .ok (.invokevirtual 44, 3) := by decide +kernel
theorem dX4_findSums_4 : decode cX4_findSums 4 = .ok (.aload_n 0, 1) := by decide +kernel
theorem dX4_findSums_5 : decode cX4_findSums 5 = .ok (.iconst 0, 1) := by decide +kernel
theorem dX4_findSums_6 : decode cX4_findSums 6 = .ok (.putfield 47, 3) := by decide +kernel
theorem dX4_findSums_9 : decode cX4_findSums 9 = .ok (.iconst 0, 1) := by decide +kernel
theorem dX4_findSums_10 : decode cX4_findSums 10 = .ok (.istore_n 2, 1) := by decide +kernel
theorem dX4_findSums_11 : decode cX4_findSums 11 = .ok (.iload_n 2, 1) := by decide +kernel
theorem dX4_findSums_12 : decode cX4_findSums 12 = .ok (.aload_n 0, 1) := by decide +kernel
theorem dX4_findSums_13 : decode cX4_findSums 13 = .ok (.getfield 24, 3) := by decide +kernel
theorem dX4_findSums_16 : decode cX4_findSums 16 = .ok (.getfield 51, 3) := by decide +kernel
theorem dX4_findSums_19 : decode cX4_findSums 19 = .ok (.if_icmp .ge 75, 3) := by decide +kernel
theorem dX4_findSums_22 : decode cX4_findSums 22 = .ok (.iconst 0, 1) := by decide +kernel
theorem dX4_findSums_23 : decode cX4_findSums 23 = .ok (.istore_n 3, 1) := by decide +kernel
theorem dX4_findSums_24 : decode cX4_findSums 24 = .ok (.iload_n 3, 1) := by decide +kernel
theorem dX4_findSums_25 : decode cX4_findSums 25 = .ok (.bipush 64, 2) := by decide +kernel
theorem dX4_findSums_27 : decode cX4_findSums 27 = .ok (.if_icmp .ge 61, 3) := by decide +kernel
theorem dX4_findSums_30 : decode cX4_findSums 30 = .ok (.aload_n 0, 1) := by decide +kernel
theorem dX4_findSums_31 : decode cX4_findSums 31 = .ok (.iload_n 2, 1) := by decide +kernel
theorem dX4_findSums_32 : decode cX4_findSums 32 = .ok (.iload_n 3, 1) := by decide +kernel
theorem dX4_findSums_33 : decode cX4_findSums 33 = .ok (.invokevirtual 57, 3) := by decide +kernel
theorem dX4_findSums_36 : decode cX4_findSums 36 = .ok (.istore 4, 2) := by decide +kernel
theorem dX4_findSums_38 : decode cX4_findSums 38 = .ok (.iload_n 3, 1) := by decide +kernel
theorem dX4_findSums_39 : decode cX4_findSums 39 = .ok (.iload_n 1, 1) := by decide +kernel
theorem dX4_findSums_40 : decode cX4_findSums 40 = .ok (.iconst (-1), 1) := by decide +kernel
theorem dX4_findSums_41 : decode cX4_findSums 41 = .ok (.ixor, 1) := by decide +kernel
theorem dX4_findSums_42 : decode cX4_findSums 42 = .ok (.iand, 1) := by decide +kernel
theorem dX4_findSums_43 : decode cX4_findSums 43 = .ok (.ifCond .ne 39, 3) := by decide +kernel
theorem dX4_findSums_46 : decode cX4_findSums 46 = .ok (.aload_n 0, 1) := by decide +kernel
theorem dX4_findSums_47 : decode cX4_findSums 47 = .ok (.getfield 18, 3) := by decide +kernel
theorem dX4_findSums_50 : decode cX4_findSums 50 = .ok (.iload 4, 2) := by decide +kernel
theorem dX4_findSums_52 : decode cX4_findSums 52 = .ok (.iaload, 1) := by decide +kernel
theorem dX4_findSums_53 : decode cX4_findSums 53 = .ok (.bipush (-2), 2) := by decide +kernel
theorem dX4_findSums_55 : decode cX4_findSums 55 = .ok (.if_icmp .ne 27, 3) := by decide +kernel
theorem dX4_findSums_58 : decode cX4_findSums 58 = .ok (.aload_n 0, 1) := by decide +kernel
theorem dX4_findSums_59 : decode cX4_findSums 59 = .ok (.getfield 18, 3) := by decide +kernel
theorem dX4_findSums_62 : decode cX4_findSums 62 = .ok (.iload 4, 2) := by decide +kernel
theorem dX4_findSums_64 : decode cX4_findSums 64 = .ok (.aload_n 0, 1) := by decide +kernel
theorem dX4_findSums_65 : decode cX4_findSums 65 = .ok (.iload_n 2, 1) := by decide +kernel
theorem dX4_findSums_66 : decode cX4_findSums 66 = .ok (.iload_n 3, 1) := by decide +kernel
theorem dX4_findSums_67 : decode cX4_findSums 67 = .ok (.invokevirtual 61, 3) := by decide +kernel
theorem dX4_findSums_70 : decode cX4_findSums 70 = .ok (.ifCond .eq 10, 3) := by decide +kernel
theorem dX4_findSums_73 : decode cX4_findSums 73 = .ok (.aload_n 0, 1) := by decide +kernel
theorem dX4_findSums_74 : decode cX4_findSums 74 = .ok (.invokevirtual 65, 3) := by decide +kernel
theorem dX4_findSums_77 : decode cX4_findSums 77 = .ok (.goto 4, 3) := by decide +kernel
theorem dX4_findSums_80 : decode cX4_findSums 80 = .ok (.iconst (-1), 1) := by decide +kernel
theorem dX4_findSums_81 : decode cX4_findSums 81 = .ok (.iastore, 1) := by decide +kernel
theorem dX4_findSums_82 : decode cX4_findSums 82 = .ok (.iinc 3 1, 3) := by decide +kernel
theorem dX4_findSums_85 : decode cX4_findSums 85 = .ok (.goto (-61), 3) := by decide +kernel
theorem dX4_findSums_88 : decode cX4_findSums 88 = .ok (.iinc 2 1, 3) := by decide +kernel
theorem dX4_findSums_91 : decode cX4_findSums 91 = .ok (.goto (-80), 3) := by decide +kernel
theorem dX4_findSums_94 : decode cX4_findSums 94 = .ok (.return_, 1) := by decide +kernel
theorem dX4_sumOf_0 : decode cX4_sumOf 0 = .ok (.aload_n 0, 1) := by decide +kernel
theorem dX4_sumOf_1 : decode cX4_sumOf 1 = .ok (.getfield 24, 3) := by decide +kernel
theorem dX4_sumOf_4 : decode cX4_sumOf 4 = .ok (.iload_n 1, 1) := by decide +kernel
theorem dX4_sumOf_5 : decode cX4_sumOf 5 = .ok (.invokevirtual 69, 3) := by decide +kernel
theorem dX4_sumOf_8 : decode cX4_sumOf 8 = .ok (.ifCond .eq 28, 3) := by decide +kernel
theorem dX4_sumOf_11 : decode cX4_sumOf 11 = .ok (.aload_n 0, 1) := by decide +kernel
theorem dX4_sumOf_12 : decode cX4_sumOf 12 = .ok (.getfield 24, 3) := by decide +kernel
theorem dX4_sumOf_15 : decode cX4_sumOf 15 = .ok (.iload_n 2, 1) := by decide +kernel
theorem dX4_sumOf_16 : decode cX4_sumOf 16 = .ok (.invokevirtual 73, 3) := by decide +kernel
theorem dX4_sumOf_19 : decode cX4_sumOf 19 = .ok (.ifCond .eq 17, 3) := by decide +kernel
theorem dX4_sumOf_22 : decode cX4_sumOf 22 = .ok (.aload_n 0, 1) := by decide +kernel
theorem dX4_sumOf_23 : decode cX4_sumOf 23 = .ok (.getfield 18, 3) := by decide +kernel
theorem dX4_sumOf_26 : decode cX4_sumOf 26 = .ok (.aload_n 0, 1) := by decide +kernel
theorem dX4_sumOf_27 : decode cX4_sumOf 27 = .ok (.iload_n 1, 1) := by decide +kernel
theorem dX4_sumOf_28 : decode cX4_sumOf 28 = .ok (.iload_n 2, 1) := by decide +kernel
theorem dX4_sumOf_29 : decode cX4_sumOf 29 = .ok (.invokevirtual 57, 3) := by decide +kernel
theorem dX4_sumOf_32 : decode cX4_sumOf 32 = .ok (.iaload, 1) := by decide +kernel
theorem dX4_sumOf_33 : decode cX4_sumOf 33 = .ok (.goto 4, 3) := by decide +kernel
theorem dX4_sumOf_36 : decode cX4_sumOf 36 = .ok (.iconst (-1), 1) := by decide +kernel
theorem dX4_sumOf_37 : decode cX4_sumOf 37 = .ok (.ireturn, 1) := by decide +kernel
theorem dX4_indexOf_0 : decode cX4_indexOf 0 = .ok (.aload_n 0, 1) := by decide +kernel
theorem dX4_indexOf_1 : decode cX4_indexOf 1 = .ok (.getfield 28, 3) := by decide +kernel
theorem dX4_indexOf_4 : decode cX4_indexOf 4 = .ok (.getfield 76, 3) := by decide +kernel
theorem dX4_indexOf_7 : decode cX4_indexOf 7 = .ok (.iconst 3, 1) := by decide +kernel
theorem dX4_indexOf_8 : decode cX4_indexOf 8 = .ok (.imul, 1) := by decide +kernel
theorem dX4_indexOf_9 : decode cX4_indexOf 9 = .ok (.iload_n 1, 1) := by decide +kernel
theorem dX4_indexOf_10 : decode cX4_indexOf 10 = .ok (.iadd, 1) := by decide +kernel
theorem dX4_indexOf_11 : decode cX4_indexOf 11 = .ok (.bipush 64, 2) := by decide +kernel
theorem dX4_indexOf_13 : decode cX4_indexOf 13 = .ok (.imul, 1) := by decide +kernel
theorem dX4_indexOf_14 : decode cX4_indexOf 14 = .ok (.iload_n 2, 1) := by decide +kernel
theorem dX4_indexOf_15 : decode cX4_indexOf 15 = .ok (.iadd, 1) := by decide +kernel
theorem dX4_indexOf_16 : decode cX4_indexOf 16 = .ok (.ireturn, 1) := by decide +kernel
theorem dX4_findPlaces_0 : decode cX4_findPlaces 0 = .ok (.aload_n 0, 1) := by decide +kernel
theorem dX4_findPlaces_1 : decode cX4_findPlaces 1 = .ok (.iconst 1, 1) := by decide +kernel
theorem dX4_findPlaces_2 : decode cX4_findPlaces 2 = .ok (.putfield 47, 3) := by decide +kernel
theorem dX4_findPlaces_5 : decode cX4_findPlaces 5 = .ok (.aload_n 0, 1) := by decide +kernel
theorem dX4_findPlaces_6 : decode cX4_findPlaces 6 = .ok (.iload_n 1, 1) := by decide +kernel
theorem dX4_findPlaces_7 : decode cX4_findPlaces 7 = .ok (.iload_n 2, 1) := by decide +kernel
theorem dX4_findPlaces_8 : decode cX4_findPlaces 8 = .ok (.invokevirtual 61, 3) := by decide +kernel
theorem dX4_findPlaces_11 : decode cX4_findPlaces 11 = .ok (.ireturn, 1) := by decide +kernel
theorem dX4_leastSum_0 : decode cX4_leastSum 0 = .ok (.aload_n 0, 1) := by decide +kernel
theorem dX4_leastSum_1 : decode cX4_leastSum 1 = .ok (.getfield 79, 3) := by decide +kernel
theorem dX4_leastSum_4 : decode cX4_leastSum 4 = .ok (.bipush 18, 2) := by decide +kernel
theorem dX4_leastSum_6 : decode cX4_leastSum 6 = .ok (.ishr, 1) := by decide +kernel
theorem dX4_leastSum_7 : decode cX4_leastSum 7 = .ok (.ireturn, 1) := by decide +kernel
theorem dX4_placeOf_0 : decode cX4_placeOf 0 = .ok (.aload_n 0, 1) := by decide +kernel
theorem dX4_placeOf_1 : decode cX4_placeOf 1 = .ok (.getfield 79, 3) := by decide +kernel
theorem dX4_placeOf_4 : decode cX4_placeOf 4 = .ok (.iload_n 1, 1) := by decide +kernel
theorem dX4_placeOf_5 : decode cX4_placeOf 5 = .ok (.invokestatic 82, 3) := by decide +kernel
theorem dX4_placeOf_8 : decode cX4_placeOf 8 = .ok (.ishr, 1) := by decide +kernel
theorem dX4_placeOf_9 : decode cX4_placeOf 9 = .ok (.bipush 7, 2) := by decide +kernel
theorem dX4_placeOf_11 : decode cX4_placeOf 11 = .ok (.iand, 1) := by decide +kernel
theorem dX4_placeOf_12 : decode cX4_placeOf 12 = .ok (.ireturn, 1) := by decide +kernel
theorem dX4_shiftOf_0 : decode cX4_shiftOf 0 = .ok (.iconst 3, 1) := by decide +kernel
theorem dX4_shiftOf_1 : decode cX4_shiftOf 1 = .ok (.iconst 5, 1) := by decide +kernel
theorem dX4_shiftOf_2 : decode cX4_shiftOf 2 = .ok (.iload_n 0, 1) := by decide +kernel
theorem dX4_shiftOf_3 : decode cX4_shiftOf 3 = .ok (.isub, 1) := by decide +kernel
theorem dX4_shiftOf_4 : decode cX4_shiftOf 4 = .ok (.imul, 1) := by decide +kernel
theorem dX4_shiftOf_5 : decode cX4_shiftOf 5 = .ok (.ireturn, 1) := by decide +kernel
theorem dX4_findBest_0 : decode cX4_findBest 0 = .ok (.aload_n 0, 1) := by decide +kernel
theorem dX4_findBest_1 : decode cX4_findBest 1 = .ok (.ldc 86, 2) := by decide +kernel
theorem dX4_findBest_3 : decode cX4_findBest 3 = .ok (.putfield 79, 3) := by decide +kernel
theorem dX4_findBest_6 : decode cX4_findBest 6 = .ok (.aload_n 0, 1) := by decide +kernel
theorem dX4_findBest_7 : decode cX4_findBest 7 = .ok (.iload_n 1, 1) := by decide +kernel
theorem dX4_findBest_8 : decode cX4_findBest 8 = .ok (.putfield 87, 3) := by decide +kernel
theorem dX4_findBest_11 : decode cX4_findBest 11 = .ok (.aload_n 0, 1) := by decide +kernel
theorem dX4_findBest_12 : decode cX4_findBest 12 = .ok (.iload_n 2, 1) := by decide +kernel
theorem dX4_findBest_13 : decode cX4_findBest 13 = .ok (.invokevirtual 90, 3) := by decide +kernel
theorem dX4_findBest_16 : decode cX4_findBest 16 = .ok (.aload_n 0, 1) := by decide +kernel
theorem dX4_findBest_17 : decode cX4_findBest 17 = .ok (.invokevirtual 94, 3) := by decide +kernel
theorem dX4_findBest_20 : decode cX4_findBest 20 = .ok (.aload_n 0, 1) := by decide +kernel
theorem dX4_findBest_21 : decode cX4_findBest 21 = .ok (.getfield 97, 3) := by decide +kernel
theorem dX4_findBest_24 : decode cX4_findBest 24 = .ok (.aload_n 0, 1) := by decide +kernel
theorem dX4_findBest_25 : decode cX4_findBest 25 = .ok (.getfield 24, 3) := by decide +kernel
theorem dX4_findBest_28 : decode cX4_findBest 28 = .ok (.iload_n 1, 1) := by decide +kernel
theorem dX4_findBest_29 : decode cX4_findBest 29 = .ok (.invokevirtual 100, 3) := by decide +kernel
theorem dX4_findBest_32 : decode cX4_findBest 32 = .ok (.if_icmp .le 5, 3) := by decide +kernel
theorem dX4_findBest_35 : decode cX4_findBest 35 = .ok (.iconst 0, 1) := by decide +kernel
theorem dX4_findBest_36 : decode cX4_findBest 36 = .ok (.ireturn, 1) := by decide +kernel
theorem dX4_findBest_37 : decode cX4_findBest 37 = .ok (.aload_n 0, 1) := by decide +kernel
theorem dX4_findBest_38 : decode cX4_findBest 38 = .ok (.iconst 0, 1) := by decide +kernel
theorem dX4_findBest_39 : decode cX4_findBest 39 = .ok (.iconst 0, 1) := by decide +kernel
theorem dX4_findBest_40 : decode cX4_findBest 40 = .ok (.iconst 0, 1) := by decide +kernel
theorem dX4_findBest_41 : decode cX4_findBest 41 = .ok (.iconst 0, 1) := by decide +kernel
theorem dX4_findBest_42 : decode cX4_findBest 42 = .ok (.invokevirtual 103, 3) := by decide +kernel
theorem dX4_findBest_45 : decode cX4_findBest 45 = .ok (.aload_n 0, 1) := by decide +kernel
theorem dX4_findBest_46 : decode cX4_findBest 46 = .ok (.getfield 79, 3) := by decide +kernel
theorem dX4_findBest_49 : decode cX4_findBest 49 = .ok (.ldc 86, 2) := by decide +kernel
theorem dX4_findBest_51 : decode cX4_findBest 51 = .ok (.if_icmp .eq 7, 3) := by decide +kernel
theorem dX4_findBest_54 : decode cX4_findBest 54 = .ok (.iconst 1, 1) := by decide +kernel
theorem dX4_findBest_55 : decode cX4_findBest 55 = .ok (.goto 4, 3) := by decide +kernel
theorem dX4_findBest_58 : decode cX4_findBest 58 = .ok (.iconst 0, 1) := by decide +kernel
theorem dX4_findBest_59 : decode cX4_findBest 59 = .ok (.ireturn, 1) := by decide +kernel
theorem dX4_orderByAge_0 : decode cX4_orderByAge 0 = .ok (.iload_n 1, 1) := by decide +kernel
theorem dX4_orderByAge_1 : decode cX4_orderByAge 1 = .ok (.istore_n 2, 1) := by decide +kernel
theorem dX4_orderByAge_2 : decode cX4_orderByAge 2 = .ok (.aload_n 0, 1) := by decide +kernel
theorem dX4_orderByAge_3 : decode cX4_orderByAge 3 = .ok (.iconst 0, 1) := by decide +kernel
theorem dX4_orderByAge_4 : decode cX4_orderByAge 4 = .ok (.putfield 97, 3) := by decide +kernel
theorem dX4_orderByAge_7 : decode cX4_orderByAge 7 = .ok (.iconst 0, 1) := by decide +kernel
theorem dX4_orderByAge_8 : decode cX4_orderByAge 8 = .ok (.istore_n 3, 1) := by decide +kernel
theorem dX4_orderByAge_9 : decode cX4_orderByAge 9 = .ok (.iload_n 3, 1) := by decide +kernel
theorem dX4_orderByAge_10 : decode cX4_orderByAge 10 = .ok (.bipush 6, 2) := by decide +kernel
theorem dX4_orderByAge_12 : decode cX4_orderByAge 12 = .ok (.if_icmp .ge 55, 3) := by decide +kernel
theorem dX4_orderByAge_15 : decode cX4_orderByAge 15 = .ok (.aload_n 0, 1) := by decide +kernel
theorem dX4_orderByAge_16 : decode cX4_orderByAge 16 = .ok (.getfield 28, 3) := by decide +kernel
theorem dX4_orderByAge_19 : decode cX4_orderByAge 19 = .ok (.iload_n 2, 1) := by decide +kernel
theorem dX4_orderByAge_20 : decode cX4_orderByAge 20 = .ok (.invokevirtual 107, 3) := by decide +kernel
theorem dX4_orderByAge_23 : decode cX4_orderByAge 23 = .ok (.istore 4, 2) := by decide +kernel
theorem dX4_orderByAge_25 : decode cX4_orderByAge 25 = .ok (.iload 4, 2) := by decide +kernel
theorem dX4_orderByAge_27 : decode cX4_orderByAge 27 = .ok (.iconst (-1), 1) := by decide +kernel
theorem dX4_orderByAge_28 : decode cX4_orderByAge 28 = .ok (.if_icmp .ne 6, 3) := by decide +kernel
theorem dX4_orderByAge_31 : decode cX4_orderByAge 31 = .ok (.goto 36, 3) := by decide +kernel
theorem dX4_orderByAge_34 : decode cX4_orderByAge 34 = .ok (.aload_n 0, 1) := by decide +kernel
theorem dX4_orderByAge_35 : decode cX4_orderByAge 35 = .ok (.getfield 11, 3) := by decide +kernel
theorem dX4_orderByAge_38 : decode cX4_orderByAge 38 = .ok (.iload_n 3, 1) := by decide +kernel
theorem dX4_orderByAge_39 : decode cX4_orderByAge 39 = .ok (.iload 4, 2) := by decide +kernel
theorem dX4_orderByAge_41 : decode cX4_orderByAge 41 = .ok (.iastore, 1) := by decide +kernel
theorem dX4_orderByAge_42 : decode cX4_orderByAge 42 = .ok (.aload_n 0, 1) := by decide +kernel
theorem dX4_orderByAge_43 : decode cX4_orderByAge 43 = .ok (.dup, 1) := by decide +kernel
theorem dX4_orderByAge_44 : decode cX4_orderByAge 44 = .ok (.getfield 97, 3) := by decide +kernel
theorem dX4_orderByAge_47 : decode cX4_orderByAge 47 = .ok (.iconst 1, 1) := by decide +kernel
theorem dX4_orderByAge_48 : decode cX4_orderByAge 48 = .ok (.iadd, 1) := by decide +kernel
theorem dX4_orderByAge_49 : decode cX4_orderByAge 49 = .ok (.putfield 97, 3) := by decide +kernel
theorem dX4_orderByAge_52 : decode cX4_orderByAge 52 = .ok (.iload_n 2, 1) := by decide +kernel
theorem dX4_orderByAge_53 : decode cX4_orderByAge 53 = .ok (.iconst 1, 1) := by decide +kernel
theorem dX4_orderByAge_54 : decode cX4_orderByAge 54 = .ok (.iload 4, 2) := by decide +kernel
theorem dX4_orderByAge_56 : decode cX4_orderByAge 56 = .ok (.ishl, 1) := by decide +kernel
theorem dX4_orderByAge_57 : decode cX4_orderByAge 57 = .ok (.iconst (-1), 1) := by decide +kernel
theorem dX4_orderByAge_58 : decode cX4_orderByAge 58 = .ok (.ixor, 1) := by decide +kernel
theorem dX4_orderByAge_59 : decode cX4_orderByAge 59 = .ok (.iand, 1) := by decide +kernel
theorem dX4_orderByAge_60 : decode cX4_orderByAge 60 = .ok (.istore_n 2, 1) := by decide +kernel
theorem dX4_orderByAge_61 : decode cX4_orderByAge 61 = .ok (.iinc 3 1, 3) := by decide +kernel
theorem dX4_orderByAge_64 : decode cX4_orderByAge 64 = .ok (.goto (-55), 3) := by decide +kernel
theorem dX4_orderByAge_67 : decode cX4_orderByAge 67 = .ok (.return_, 1) := by decide +kernel
theorem dX4_lookAtFloors_0 : decode cX4_lookAtFloors 0 = .ok (.aload_n 0, 1) := by decide +kernel
theorem dX4_lookAtFloors_1 : decode cX4_lookAtFloors 1 = .ok (.aload_n 0, 1) := by decide +kernel
theorem dX4_lookAtFloors_2 : decode cX4_lookAtFloors 2 = .ok (.getfield 24, 3) := by decide +kernel
theorem dX4_lookAtFloors_5 : decode cX4_lookAtFloors 5 = .ok (.aload_n 0, 1) := by decide +kernel
theorem dX4_lookAtFloors_6 : decode cX4_lookAtFloors 6 = .ok (.getfield 87, 3) := by decide +kernel
theorem dX4_lookAtFloors_9 : decode cX4_lookAtFloors 9 = .ok (.iconst 0, 1) := by decide +kernel
theorem dX4_lookAtFloors_10 : decode cX4_lookAtFloors 10 = .ok (.invokevirtual 110, 3) := by decide +kernel
theorem dX4_lookAtFloors_13 : decode cX4_lookAtFloors 13 = .ok (.putfield 113, 3) := by decide +kernel
theorem dX4_lookAtFloors_16 : decode cX4_lookAtFloors 16 = .ok (.iconst 0, 1) := by decide +kernel
theorem dX4_lookAtFloors_17 : decode cX4_lookAtFloors 17 = .ok (.istore_n 1, 1) := by decide +kernel
theorem dX4_lookAtFloors_18 : decode cX4_lookAtFloors 18 = .ok (.iload_n 1, 1) := by decide +kernel
theorem dX4_lookAtFloors_19 : decode cX4_lookAtFloors 19 = .ok (.aload_n 0, 1) := by decide +kernel
theorem dX4_lookAtFloors_20 : decode cX4_lookAtFloors 20 = .ok (.getfield 24, 3) := by decide +kernel
theorem dX4_lookAtFloors_23 : decode cX4_lookAtFloors 23 = .ok (.aload_n 0, 1) := by decide +kernel
theorem dX4_lookAtFloors_24 : decode cX4_lookAtFloors 24 = .ok (.getfield 87, 3) := by decide +kernel
theorem dX4_lookAtFloors_27 : decode cX4_lookAtFloors 27 = .ok (.invokevirtual 100, 3) := by decide +kernel
theorem dX4_lookAtFloors_30 : decode cX4_lookAtFloors 30 = .ok (.if_icmp .ge 104, 3) := by decide +kernel
theorem dX4_lookAtFloors_33 : decode cX4_lookAtFloors 33 = .ok (.iload_n 1, 1) := by decide +kernel
theorem dX4_lookAtFloors_34 : decode cX4_lookAtFloors 34 = .ok (.bipush 6, 2) := by decide +kernel
theorem dX4_lookAtFloors_36 : decode cX4_lookAtFloors 36 = .ok (.if_icmp .ge 98, 3) := by decide +kernel
theorem dX4_lookAtFloors_39 : decode cX4_lookAtFloors 39 = .ok (.aload_n 0, 1) := by decide +kernel
theorem dX4_lookAtFloors_40 : decode cX4_lookAtFloors 40 = .ok (.aload_n 0, 1) := by decide +kernel
theorem dX4_lookAtFloors_41 : decode cX4_lookAtFloors 41 = .ok (.getfield 113, 3) := by decide +kernel
theorem dX4_lookAtFloors_44 : decode cX4_lookAtFloors 44 = .ok (.aload_n 0, 1) := by decide +kernel
theorem dX4_lookAtFloors_45 : decode cX4_lookAtFloors 45 = .ok (.getfield 24, 3) := by decide +kernel
theorem dX4_lookAtFloors_48 : decode cX4_lookAtFloors 48 = .ok (.aload_n 0, 1) := by decide +kernel
theorem dX4_lookAtFloors_49 : decode cX4_lookAtFloors 49 = .ok (.getfield 87, 3) := by decide +kernel
theorem dX4_lookAtFloors_52 : decode cX4_lookAtFloors 52 = .ok (.iload_n 1, 1) := by decide +kernel
theorem dX4_lookAtFloors_53 : decode cX4_lookAtFloors 53 = .ok (.invokevirtual 110, 3) := by decide +kernel
theorem dX4_lookAtFloors_56 : decode cX4_lookAtFloors 56 = .ok (.invokestatic 116, 3) := by decide +kernel
theorem dX4_lookAtFloors_59 : decode cX4_lookAtFloors 59 = .ok (.putfield 113, 3) := by decide +kernel
theorem dX4_lookAtFloors_62 : decode cX4_lookAtFloors 62 = .ok (.aload_n 0, 1) := by decide +kernel
theorem dX4_lookAtFloors_63 : decode cX4_lookAtFloors 63 = .ok (.getfield 15, 3) := by decide +kernel
theorem dX4_lookAtFloors_66 : decode cX4_lookAtFloors 66 = .ok (.iload_n 1, 1) := by decide +kernel
theorem dX4_lookAtFloors_67 : decode cX4_lookAtFloors 67 = .ok (.iconst 0, 1) := by decide +kernel
theorem dX4_lookAtFloors_68 : decode cX4_lookAtFloors 68 = .ok (.iastore, 1) := by decide +kernel
theorem dX4_lookAtFloors_69 : decode cX4_lookAtFloors 69 = .ok (.iconst 0, 1) := by decide +kernel
theorem dX4_lookAtFloors_70 : decode cX4_lookAtFloors 70 = .ok (.istore_n 2, 1) := by decide +kernel
theorem dX4_lookAtFloors_71 : decode cX4_lookAtFloors 71 = .ok (.iload_n 2, 1) := by decide +kernel
theorem dX4_lookAtFloors_72 : decode cX4_lookAtFloors 72 = .ok (.iload_n 1, 1) := by decide +kernel
theorem dX4_lookAtFloors_73 : decode cX4_lookAtFloors 73 = .ok (.if_icmp .ge 55, 3) := by decide +kernel
theorem dX4_lookAtFloors_76 : decode cX4_lookAtFloors 76 = .ok (.aload_n 0, 1) := by decide +kernel
theorem dX4_lookAtFloors_77 : decode cX4_lookAtFloors 77 = .ok (.getfield 47, 3) := by decide +kernel
theorem dX4_lookAtFloors_80 : decode cX4_lookAtFloors 80 = .ok (.ifCond .ne 48, 3) := by decide +kernel
theorem dX4_lookAtFloors_83 : decode cX4_lookAtFloors 83 = .ok (.aload_n 0, 1) := by decide +kernel
theorem dX4_lookAtFloors_84 : decode cX4_lookAtFloors 84 = .ok (.getfield 24, 3) := by decide +kernel
theorem dX4_lookAtFloors_87 : decode cX4_lookAtFloors 87 = .ok (.aload_n 0, 1) := by decide +kernel
theorem dX4_lookAtFloors_88 : decode cX4_lookAtFloors 88 = .ok (.getfield 87, 3) := by decide +kernel
theorem dX4_lookAtFloors_91 : decode cX4_lookAtFloors 91 = .ok (.iload_n 2, 1) := by decide +kernel
theorem dX4_lookAtFloors_92 : decode cX4_lookAtFloors 92 = .ok (.invokevirtual 110, 3) := by decide +kernel
theorem dX4_lookAtFloors_95 : decode cX4_lookAtFloors 95 = .ok (.aload_n 0, 1) := by decide +kernel
theorem dX4_lookAtFloors_96 : decode cX4_lookAtFloors 96 = .ok (.getfield 24, 3) := by decide +kernel
theorem dX4_lookAtFloors_99 : decode cX4_lookAtFloors 99 = .ok (.aload_n 0, 1) := by decide +kernel
theorem dX4_lookAtFloors_100 : decode cX4_lookAtFloors 100 = .ok (.getfield 87, 3) := by decide +kernel
theorem dX4_lookAtFloors_103 : decode cX4_lookAtFloors 103 = .ok (.iload_n 1, 1) := by decide +kernel
theorem dX4_lookAtFloors_104 : decode cX4_lookAtFloors 104 = .ok (.invokevirtual 110, 3) := by decide +kernel
theorem dX4_lookAtFloors_107 : decode cX4_lookAtFloors 107 = .ok (.if_icmp .ne 15, 3) := by decide +kernel
theorem dX4_lookAtFloors_110 : decode cX4_lookAtFloors 110 = .ok (.aload_n 0, 1) := by decide +kernel
theorem dX4_lookAtFloors_111 : decode cX4_lookAtFloors 111 = .ok (.getfield 15, 3) := by decide +kernel
theorem dX4_lookAtFloors_114 : decode cX4_lookAtFloors 114 = .ok (.iload_n 1, 1) := by decide +kernel
theorem dX4_lookAtFloors_115 : decode cX4_lookAtFloors 115 = .ok (.dup2, 1) := by decide +kernel
theorem dX4_lookAtFloors_116 : decode cX4_lookAtFloors 116 = .ok (.iaload, 1) := by decide +kernel
theorem dX4_lookAtFloors_117 : decode cX4_lookAtFloors 117 = .ok (.iconst 1, 1) := by decide +kernel
theorem dX4_lookAtFloors_118 : decode cX4_lookAtFloors 118 = .ok (.iload_n 2, 1) := by decide +kernel
theorem dX4_lookAtFloors_119 : decode cX4_lookAtFloors 119 = .ok (.ishl, 1) := by decide +kernel
theorem dX4_lookAtFloors_120 : decode cX4_lookAtFloors 120 = .ok (.ior, 1) := by decide +kernel
theorem dX4_lookAtFloors_121 : decode cX4_lookAtFloors 121 = .ok (.iastore, 1) := by decide +kernel
theorem dX4_lookAtFloors_122 : decode cX4_lookAtFloors 122 = .ok (.iinc 2 1, 3) := by decide +kernel
theorem dX4_lookAtFloors_125 : decode cX4_lookAtFloors 125 = .ok (.goto (-54), 3) := by decide +kernel
theorem dX4_lookAtFloors_128 : decode cX4_lookAtFloors 128 = .ok (.iinc 1 1, 3) := by decide +kernel
theorem dX4_lookAtFloors_131 : decode cX4_lookAtFloors 131 = .ok (.goto (-113), 3) := by decide +kernel
theorem dX4_lookAtFloors_134 : decode cX4_lookAtFloors 134 = .ok (.return_, 1) := by decide +kernel
theorem dX4_placeFrom_0 : decode cX4_placeFrom 0 = .ok (.iload_n 1, 1) := by decide +kernel
theorem dX4_placeFrom_1 : decode cX4_placeFrom 1 = .ok (.aload_n 0, 1) := by decide +kernel
theorem dX4_placeFrom_2 : decode cX4_placeFrom 2 = .ok (.getfield 97, 3) := by decide +kernel
theorem dX4_placeFrom_5 : decode cX4_placeFrom 5 = .ok (.if_icmp .ge 9, 3) := by decide +kernel
theorem dX4_placeFrom_8 : decode cX4_placeFrom 8 = .ok (.iload_n 1, 1) := by decide +kernel
theorem dX4_placeFrom_9 : decode cX4_placeFrom 9 = .ok (.bipush 6, 2) := by decide +kernel
theorem dX4_placeFrom_11 : decode cX4_placeFrom 11 = .ok (.if_icmp .lt 10, 3) := by decide +kernel
theorem dX4_placeFrom_14 : decode cX4_placeFrom 14 = .ok (.aload_n 0, 1) := by decide +kernel
theorem dX4_placeFrom_15 : decode cX4_placeFrom 15 = .ok (.iload 4, 2) := by decide +kernel
theorem dX4_placeFrom_17 : decode cX4_placeFrom 17 = .ok (.putfield 79, 3) := by decide +kernel
theorem dX4_placeFrom_20 : decode cX4_placeFrom 20 = .ok (.return_, 1) := by decide +kernel
theorem dX4_placeFrom_21 : decode cX4_placeFrom 21 = .ok (.aload_n 0, 1) := by decide +kernel
theorem dX4_placeFrom_22 : decode cX4_placeFrom 22 = .ok (.getfield 11, 3) := by decide +kernel
theorem dX4_placeFrom_25 : decode cX4_placeFrom 25 = .ok (.iload_n 1, 1) := by decide +kernel
theorem dX4_placeFrom_26 : decode cX4_placeFrom 26 = .ok (.iaload, 1) := by decide +kernel
theorem dX4_placeFrom_27 : decode cX4_placeFrom 27 = .ok (.istore 5, 2) := by decide +kernel
theorem dX4_placeFrom_29 : decode cX4_placeFrom 29 = .ok (.iconst 0, 1) := by decide +kernel
theorem dX4_placeFrom_30 : decode cX4_placeFrom 30 = .ok (.istore 6, 2) := by decide +kernel
theorem dX4_placeFrom_32 : decode cX4_placeFrom 32 = .ok (.iload 6, 2) := by decide +kernel
theorem dX4_placeFrom_34 : decode cX4_placeFrom 34 = .ok (.aload_n 0, 1) := by decide +kernel
theorem dX4_placeFrom_35 : decode cX4_placeFrom 35 = .ok (.getfield 24, 3) := by decide +kernel
theorem dX4_placeFrom_38 : decode cX4_placeFrom 38 = .ok (.aload_n 0, 1) := by decide +kernel
theorem dX4_placeFrom_39 : decode cX4_placeFrom 39 = .ok (.getfield 87, 3) := by decide +kernel
theorem dX4_placeFrom_42 : decode cX4_placeFrom 42 = .ok (.invokevirtual 100, 3) := by decide +kernel
theorem dX4_placeFrom_45 : decode cX4_placeFrom 45 = .ok (.if_icmp .ge 201, 3) := by decide +kernel
theorem dX4_placeFrom_48 : decode cX4_placeFrom 48 = .ok (.iload 6, 2) := by decide +kernel
theorem dX4_placeFrom_50 : decode cX4_placeFrom 50 = .ok (.bipush 6, 2) := by decide +kernel
theorem dX4_placeFrom_52 : decode cX4_placeFrom 52 = .ok (.if_icmp .ge 194, 3) := by decide +kernel
theorem dX4_placeFrom_55 : decode cX4_placeFrom 55 = .ok (.iload_n 3, 1) := by decide +kernel
theorem dX4_placeFrom_56 : decode cX4_placeFrom 56 = .ok (.iload 6, 2) := by decide +kernel
theorem dX4_placeFrom_58 : decode cX4_placeFrom 58 = .ok (.ishr, 1) := by decide +kernel
theorem dX4_placeFrom_59 : decode cX4_placeFrom 59 = .ok (.iconst 1, 1) := by decide +kernel
theorem dX4_placeFrom_60 : decode cX4_placeFrom 60 = .ok (.iand, 1) := by decide +kernel
theorem dX4_placeFrom_61 : decode cX4_placeFrom 61 = .ok (.ifCond .ne 179, 3) := by decide +kernel
theorem dX4_placeFrom_64 : decode cX4_placeFrom 64 = .ok (.aload_n 0, 1) := by decide +kernel
theorem dX4_placeFrom_65 : decode cX4_placeFrom 65 = .ok (.getfield 15, 3) := by decide +kernel
theorem dX4_placeFrom_68 : decode cX4_placeFrom 68 = .ok (.iload 6, 2) := by decide +kernel
theorem dX4_placeFrom_70 : decode cX4_placeFrom 70 = .ok (.iaload, 1) := by decide +kernel
theorem dX4_placeFrom_71 : decode cX4_placeFrom 71 = .ok (.iload_n 3, 1) := by decide +kernel
theorem dX4_placeFrom_72 : decode cX4_placeFrom 72 = .ok (.iconst (-1), 1) := by decide +kernel
theorem dX4_placeFrom_73 : decode cX4_placeFrom 73 = .ok (.ixor, 1) := by decide +kernel
theorem dX4_placeFrom_74 : decode cX4_placeFrom 74 = .ok (.iand, 1) := by decide +kernel
theorem dX4_placeFrom_75 : decode cX4_placeFrom 75 = .ok (.ifCond .eq 6, 3) := by decide +kernel
theorem dX4_placeFrom_78 : decode cX4_placeFrom 78 = .ok (.goto 162, 3) := by decide +kernel
theorem dX4_placeFrom_81 : decode cX4_placeFrom 81 = .ok (.aload_n 0, 1) := by decide +kernel
theorem dX4_placeFrom_82 : decode cX4_placeFrom 82 = .ok (.getfield 24, 3) := by decide +kernel
theorem dX4_placeFrom_85 : decode cX4_placeFrom 85 = .ok (.aload_n 0, 1) := by decide +kernel
theorem dX4_placeFrom_86 : decode cX4_placeFrom 86 = .ok (.getfield 87, 3) := by decide +kernel
theorem dX4_placeFrom_89 : decode cX4_placeFrom 89 = .ok (.iload 6, 2) := by decide +kernel
theorem dX4_placeFrom_91 : decode cX4_placeFrom 91 = .ok (.invokevirtual 110, 3) := by decide +kernel
theorem dX4_placeFrom_94 : decode cX4_placeFrom 94 = .ok (.aload_n 0, 1) := by decide +kernel
theorem dX4_placeFrom_95 : decode cX4_placeFrom 95 = .ok (.getfield 28, 3) := by decide +kernel
theorem dX4_placeFrom_98 : decode cX4_placeFrom 98 = .ok (.getfield 32, 3) := by decide +kernel
theorem dX4_placeFrom_101 : decode cX4_placeFrom 101 = .ok (.iload 5, 2) := by decide +kernel
theorem dX4_placeFrom_103 : decode cX4_placeFrom 103 = .ok (.iaload, 1) := by decide +kernel
theorem dX4_placeFrom_104 : decode cX4_placeFrom 104 = .ok (.iadd, 1) := by decide +kernel
theorem dX4_placeFrom_105 : decode cX4_placeFrom 105 = .ok (.istore 7, 2) := by decide +kernel
theorem dX4_placeFrom_107 : decode cX4_placeFrom 107 = .ok (.iload_n 1, 1) := by decide +kernel
theorem dX4_placeFrom_108 : decode cX4_placeFrom 108 = .ok (.ifCond .ne 7, 3) := by decide +kernel
theorem dX4_placeFrom_111 : decode cX4_placeFrom 111 = .ok (.iconst 0, 1) := by decide +kernel
theorem dX4_placeFrom_112 : decode cX4_placeFrom 112 = .ok (.goto 11, 3) := by decide +kernel
theorem dX4_placeFrom_115 : decode cX4_placeFrom 115 = .ok (.iconst 0, 1) := by decide +kernel
theorem dX4_placeFrom_116 : decode cX4_placeFrom 116 = .ok (.iload 7, 2) := by decide +kernel
theorem dX4_placeFrom_118 : decode cX4_placeFrom 118 = .ok (.iload_n 2, 1) := by decide +kernel
theorem dX4_placeFrom_119 : decode cX4_placeFrom 119 = .ok (.isub, 1) := by decide +kernel
theorem dX4_placeFrom_120 : decode cX4_placeFrom 120 = .ok (.invokestatic 121, 3) := by decide +kernel
theorem dX4_placeFrom_123 : decode cX4_placeFrom 123 = .ok (.istore 8, 2) := by decide +kernel
theorem dX4_placeFrom_125 : decode cX4_placeFrom 125 = .ok (.iload 8, 2) := by decide +kernel
theorem dX4_placeFrom_127 : decode cX4_placeFrom 127 = .ok (.aload_n 0, 1) := by decide +kernel
theorem dX4_placeFrom_128 : decode cX4_placeFrom 128 = .ok (.getfield 24, 3) := by decide +kernel
theorem dX4_placeFrom_131 : decode cX4_placeFrom 131 = .ok (.getfield 124, 3) := by decide +kernel
theorem dX4_placeFrom_134 : decode cX4_placeFrom 134 = .ok (.iload 5, 2) := by decide +kernel
theorem dX4_placeFrom_136 : decode cX4_placeFrom 136 = .ok (.iaload, 1) := by decide +kernel
theorem dX4_placeFrom_137 : decode cX4_placeFrom 137 = .ok (.if_icmp .le 6, 3) := by decide +kernel
theorem dX4_placeFrom_140 : decode cX4_placeFrom 140 = .ok (.goto 100, 3) := by decide +kernel
theorem dX4_placeFrom_143 : decode cX4_placeFrom 143 = .ok (.iload 4, 2) := by decide +kernel
theorem dX4_placeFrom_145 : decode cX4_placeFrom 145 = .ok (.iload 8, 2) := by decide +kernel
theorem dX4_placeFrom_147 : decode cX4_placeFrom 147 = .ok (.bipush 18, 2) := by decide +kernel
theorem dX4_placeFrom_149 : decode cX4_placeFrom 149 = .ok (.ishl, 1) := by decide +kernel
theorem dX4_placeFrom_150 : decode cX4_placeFrom 150 = .ok (.iadd, 1) := by decide +kernel
theorem dX4_placeFrom_151 : decode cX4_placeFrom 151 = .ok (.aload_n 0, 1) := by decide +kernel
theorem dX4_placeFrom_152 : decode cX4_placeFrom 152 = .ok (.getfield 47, 3) := by decide +kernel
theorem dX4_placeFrom_155 : decode cX4_placeFrom 155 = .ok (.ifCond .eq 14, 3) := by decide +kernel
theorem dX4_placeFrom_158 : decode cX4_placeFrom 158 = .ok (.iload 6, 2) := by decide +kernel
theorem dX4_placeFrom_160 : decode cX4_placeFrom 160 = .ok (.iload 5, 2) := by decide +kernel
theorem dX4_placeFrom_162 : decode cX4_placeFrom 162 = .ok (.invokestatic 82, 3) := by decide +kernel
theorem dX4_placeFrom_165 : decode cX4_placeFrom 165 = .ok (.ishl, 1) := by decide +kernel
theorem dX4_placeFrom_166 : decode cX4_placeFrom 166 = .ok (.goto 4, 3) := by decide +kernel
theorem dX4_placeFrom_169 : decode cX4_placeFrom 169 = .ok (.iconst 0, 1) := by decide +kernel
theorem dX4_placeFrom_170 : decode cX4_placeFrom 170 = .ok (.iadd, 1) := by decide +kernel
theorem dX4_placeFrom_171 : decode cX4_placeFrom 171 = .ok (.istore 9, 2) := by decide +kernel
theorem dX4_placeFrom_173 : decode cX4_placeFrom 173 = .ok (.iload_n 1, 1) := by decide +kernel
theorem dX4_placeFrom_174 : decode cX4_placeFrom 174 = .ok (.ifCond .ne 8, 3) := by decide +kernel
theorem dX4_placeFrom_177 : decode cX4_placeFrom 177 = .ok (.iload 7, 2) := by decide +kernel
theorem dX4_placeFrom_179 : decode cX4_placeFrom 179 = .ok (.goto 10, 3) := by decide +kernel
theorem dX4_placeFrom_182 : decode cX4_placeFrom 182 = .ok (.aload_n 0, 1) := by decide +kernel
theorem dX4_placeFrom_183 : decode cX4_placeFrom 183 = .ok (.iload_n 2, 1) := by decide +kernel
theorem dX4_placeFrom_184 : decode cX4_placeFrom 184 = .ok (.iload 7, 2) := by decide +kernel
theorem dX4_placeFrom_186 : decode cX4_placeFrom 186 = .ok (.invokevirtual 127, 3) := by decide +kernel
theorem dX4_placeFrom_189 : decode cX4_placeFrom 189 = .ok (.istore 10, 2) := by decide +kernel
theorem dX4_placeFrom_191 : decode cX4_placeFrom 191 = .ok (.aload_n 0, 1) := by decide +kernel
theorem dX4_placeFrom_192 : decode cX4_placeFrom 192 = .ok (.iload_n 1, 1) := by decide +kernel
theorem dX4_placeFrom_193 : decode cX4_placeFrom 193 = .ok (.iconst 1, 1) := by decide +kernel
theorem dX4_placeFrom_194 : decode cX4_placeFrom 194 = .ok (.iadd, 1) := by decide +kernel
theorem dX4_placeFrom_195 : decode cX4_placeFrom 195 = .ok (.iload 10, 2) := by decide +kernel
theorem dX4_placeFrom_197 : decode cX4_placeFrom 197 = .ok (.invokevirtual 130, 3) := by decide +kernel
theorem dX4_placeFrom_200 : decode cX4_placeFrom 200 = .ok (.istore 11, 2) := by decide +kernel
theorem dX4_placeFrom_202 : decode cX4_placeFrom 202 = .ok (.iload 11, 2) := by decide +kernel
theorem dX4_placeFrom_204 : decode cX4_placeFrom 204 = .ok (.iconst (-1), 1) := by decide +kernel
theorem dX4_placeFrom_205 : decode cX4_placeFrom 205 = .ok (.if_icmp .eq 35, 3) := by decide +kernel
theorem dX4_placeFrom_208 : decode cX4_placeFrom 208 = .ok (.iload 9, 2) := by decide +kernel
theorem dX4_placeFrom_210 : decode cX4_placeFrom 210 = .ok (.iload 11, 2) := by decide +kernel
theorem dX4_placeFrom_212 : decode cX4_placeFrom 212 = .ok (.bipush 18, 2) := by decide +kernel
theorem dX4_placeFrom_214 : decode cX4_placeFrom 214 = .ok (.ishl, 1) := by decide +kernel
theorem dX4_placeFrom_215 : decode cX4_placeFrom 215 = .ok (.iadd, 1) := by decide +kernel
theorem dX4_placeFrom_216 : decode cX4_placeFrom 216 = .ok (.aload_n 0, 1) := by decide +kernel
theorem dX4_placeFrom_217 : decode cX4_placeFrom 217 = .ok (.getfield 79, 3) := by decide +kernel
theorem dX4_placeFrom_220 : decode cX4_placeFrom 220 = .ok (.if_icmp .ge 20, 3) := by decide +kernel
theorem dX4_placeFrom_223 : decode cX4_placeFrom 223 = .ok (.aload_n 0, 1) := by decide +kernel
theorem dX4_placeFrom_224 : decode cX4_placeFrom 224 = .ok (.iload_n 1, 1) := by decide +kernel
theorem dX4_placeFrom_225 : decode cX4_placeFrom 225 = .ok (.iconst 1, 1) := by decide +kernel
theorem dX4_placeFrom_226 : decode cX4_placeFrom 226 = .ok (.iadd, 1) := by decide +kernel
theorem dX4_placeFrom_227 : decode cX4_placeFrom 227 = .ok (.iload 10, 2) := by decide +kernel
theorem dX4_placeFrom_229 : decode cX4_placeFrom 229 = .ok (.iload_n 3, 1) := by decide +kernel
theorem dX4_placeFrom_230 : decode cX4_placeFrom 230 = .ok (.iconst 1, 1) := by decide +kernel
theorem dX4_placeFrom_231 : decode cX4_placeFrom 231 = .ok (.iload 6, 2) := by decide +kernel
theorem dX4_placeFrom_233 : decode cX4_placeFrom 233 = .ok (.ishl, 1) := by decide +kernel
theorem dX4_placeFrom_234 : decode cX4_placeFrom 234 = .ok (.ior, 1) := by decide +kernel
theorem dX4_placeFrom_235 : decode cX4_placeFrom 235 = .ok (.iload 9, 2) := by decide +kernel
theorem dX4_placeFrom_237 : decode cX4_placeFrom 237 = .ok (.invokevirtual 103, 3) := by decide +kernel
theorem dX4_placeFrom_240 : decode cX4_placeFrom 240 = .ok (.iinc 6 1, 3) := by decide +kernel
theorem dX4_placeFrom_243 : decode cX4_placeFrom 243 = .ok (.goto (-211), 3) := by decide +kernel
theorem dX4_placeFrom_246 : decode cX4_placeFrom 246 = .ok (.return_, 1) := by decide +kernel
theorem dX4_leastOfRest_0 : decode cX4_leastOfRest 0 = .ok (.iconst 0, 1) := by decide +kernel
theorem dX4_leastOfRest_1 : decode cX4_leastOfRest 1 = .ok (.istore_n 3, 1) := by decide +kernel
theorem dX4_leastOfRest_2 : decode cX4_leastOfRest 2 = .ok (.iload_n 1, 1) := by decide +kernel
theorem dX4_leastOfRest_3 : decode cX4_leastOfRest 3 = .ok (.istore 4, 2) := by decide +kernel
theorem dX4_leastOfRest_5 : decode cX4_leastOfRest 5 = .ok (.iload 4, 2) := by decide +kernel
theorem dX4_leastOfRest_7 : decode cX4_leastOfRest 7 = .ok (.aload_n 0, 1) := by decide +kernel
theorem dX4_leastOfRest_8 : decode cX4_leastOfRest 8 = .ok (.getfield 97, 3) := by decide +kernel
theorem dX4_leastOfRest_11 : decode cX4_leastOfRest 11 = .ok (.if_icmp .ge 70, 3) := by decide +kernel
theorem dX4_leastOfRest_14 : decode cX4_leastOfRest 14 = .ok (.iload 4, 2) := by decide +kernel
theorem dX4_leastOfRest_16 : decode cX4_leastOfRest 16 = .ok (.bipush 6, 2) := by decide +kernel
theorem dX4_leastOfRest_18 : decode cX4_leastOfRest 18 = .ok (.if_icmp .ge 63, 3) := by decide +kernel
theorem dX4_leastOfRest_21 : decode cX4_leastOfRest 21 = .ok (.aload_n 0, 1) := by decide +kernel
theorem dX4_leastOfRest_22 : decode cX4_leastOfRest 22 = .ok (.getfield 11, 3) := by decide +kernel
theorem dX4_leastOfRest_25 : decode cX4_leastOfRest 25 = .ok (.iload 4, 2) := by decide +kernel
theorem dX4_leastOfRest_27 : decode cX4_leastOfRest 27 = .ok (.iaload, 1) := by decide +kernel
theorem dX4_leastOfRest_28 : decode cX4_leastOfRest 28 = .ok (.istore 5, 2) := by decide +kernel
theorem dX4_leastOfRest_30 : decode cX4_leastOfRest 30 = .ok (.iconst 0, 1) := by decide +kernel
theorem dX4_leastOfRest_31 : decode cX4_leastOfRest 31 = .ok (.aload_n 0, 1) := by decide +kernel
theorem dX4_leastOfRest_32 : decode cX4_leastOfRest 32 = .ok (.getfield 113, 3) := by decide +kernel
theorem dX4_leastOfRest_35 : decode cX4_leastOfRest 35 = .ok (.aload_n 0, 1) := by decide +kernel
theorem dX4_leastOfRest_36 : decode cX4_leastOfRest 36 = .ok (.getfield 28, 3) := by decide +kernel
theorem dX4_leastOfRest_39 : decode cX4_leastOfRest 39 = .ok (.getfield 32, 3) := by decide +kernel
theorem dX4_leastOfRest_42 : decode cX4_leastOfRest 42 = .ok (.iload 5, 2) := by decide +kernel
theorem dX4_leastOfRest_44 : decode cX4_leastOfRest 44 = .ok (.iaload, 1) := by decide +kernel
theorem dX4_leastOfRest_45 : decode cX4_leastOfRest 45 = .ok (.iadd, 1) := by decide +kernel
theorem dX4_leastOfRest_46 : decode cX4_leastOfRest 46 = .ok (.iload_n 2, 1) := by decide +kernel
theorem dX4_leastOfRest_47 : decode cX4_leastOfRest 47 = .ok (.isub, 1) := by decide +kernel
theorem dX4_leastOfRest_48 : decode cX4_leastOfRest 48 = .ok (.invokestatic 121, 3) := by decide +kernel
theorem dX4_leastOfRest_51 : decode cX4_leastOfRest 51 = .ok (.istore 6, 2) := by decide +kernel
theorem dX4_leastOfRest_53 : decode cX4_leastOfRest 53 = .ok (.iload 6, 2) := by decide +kernel
theorem dX4_leastOfRest_55 : decode cX4_leastOfRest 55 = .ok (.aload_n 0, 1) := by decide +kernel
theorem dX4_leastOfRest_56 : decode cX4_leastOfRest 56 = .ok (.getfield 24, 3) := by decide +kernel
theorem dX4_leastOfRest_59 : decode cX4_leastOfRest 59 = .ok (.getfield 124, 3) := by decide +kernel
theorem dX4_leastOfRest_62 : decode cX4_leastOfRest 62 = .ok (.iload 5, 2) := by decide +kernel
theorem dX4_leastOfRest_64 : decode cX4_leastOfRest 64 = .ok (.iaload, 1) := by decide +kernel
theorem dX4_leastOfRest_65 : decode cX4_leastOfRest 65 = .ok (.if_icmp .le 5, 3) := by decide +kernel
theorem dX4_leastOfRest_68 : decode cX4_leastOfRest 68 = .ok (.iconst (-1), 1) := by decide +kernel
theorem dX4_leastOfRest_69 : decode cX4_leastOfRest 69 = .ok (.ireturn, 1) := by decide +kernel
theorem dX4_leastOfRest_70 : decode cX4_leastOfRest 70 = .ok (.iload_n 3, 1) := by decide +kernel
theorem dX4_leastOfRest_71 : decode cX4_leastOfRest 71 = .ok (.iload 6, 2) := by decide +kernel
theorem dX4_leastOfRest_73 : decode cX4_leastOfRest 73 = .ok (.iadd, 1) := by decide +kernel
theorem dX4_leastOfRest_74 : decode cX4_leastOfRest 74 = .ok (.istore_n 3, 1) := by decide +kernel
theorem dX4_leastOfRest_75 : decode cX4_leastOfRest 75 = .ok (.iinc 4 1, 3) := by decide +kernel
theorem dX4_leastOfRest_78 : decode cX4_leastOfRest 78 = .ok (.goto (-73), 3) := by decide +kernel
theorem dX4_leastOfRest_81 : decode cX4_leastOfRest 81 = .ok (.iload_n 3, 1) := by decide +kernel
theorem dX4_leastOfRest_82 : decode cX4_leastOfRest 82 = .ok (.ireturn, 1) := by decide +kernel
theorem dX4_limitBehind_0 : decode cX4_limitBehind 0 = .ok (.aload_n 0, 1) := by decide +kernel
theorem dX4_limitBehind_1 : decode cX4_limitBehind 1 = .ok (.getfield 28, 3) := by decide +kernel
theorem dX4_limitBehind_4 : decode cX4_limitBehind 4 = .ok (.getfield 76, 3) := by decide +kernel
theorem dX4_limitBehind_7 : decode cX4_limitBehind 7 = .ok (.iconst 1, 1) := by decide +kernel
theorem dX4_limitBehind_8 : decode cX4_limitBehind 8 = .ok (.if_icmp .ne 11, 3) := by decide +kernel
theorem dX4_limitBehind_11 : decode cX4_limitBehind 11 = .ok (.iload_n 1, 1) := by decide +kernel
theorem dX4_limitBehind_12 : decode cX4_limitBehind 12 = .ok (.iload_n 2, 1) := by decide +kernel
theorem dX4_limitBehind_13 : decode cX4_limitBehind 13 = .ok (.invokestatic 116, 3) := by decide +kernel
theorem dX4_limitBehind_16 : decode cX4_limitBehind 16 = .ok (.goto 4, 3) := by decide +kernel
theorem dX4_limitBehind_19 : decode cX4_limitBehind 19 = .ok (.iload_n 1, 1) := by decide +kernel
theorem dX4_limitBehind_20 : decode cX4_limitBehind 20 = .ok (.ireturn, 1) := by decide +kernel
theorem dX5_init_0 : decode cX5_init 0 = .ok (.aload_n 0, 1) := by decide +kernel
theorem dX5_init_1 : decode cX5_init 1 = .ok (.invokespecial 3, 3) := by decide +kernel
theorem dX5_init_4 : decode cX5_init 4 = .ok (.aload_n 0, 1) := by decide +kernel
theorem dX5_init_5 : decode cX5_init 5 = .ok (.new 9, 3) := by decide +kernel
theorem dX5_init_8 : decode cX5_init 8 = .ok (.dup, 1) := by decide +kernel
theorem dX5_init_9 : decode cX5_init 9 = .ok (.invokespecial 11, 3) := by decide +kernel
theorem dX5_init_12 : decode cX5_init 12 = .ok (.putfield 12, 3) := by decide +kernel
theorem dX5_init_15 : decode cX5_init 15 = .ok (.aload_n 0, 1) := by decide +kernel
theorem dX5_init_16 : decode cX5_init 16 = .ok (.sipush 500, 3) := by decide +kernel
theorem dX5_init_19 : decode cX5_init 19 = .ok (.newarray .byte, 2) := by decide +kernel
theorem dX5_init_21 : decode cX5_init 21 = .ok (.putfield 18, 3) := by decide +kernel
theorem dX5_init_24 : decode cX5_init 24 = .ok (.return_, 1) := by decide +kernel
theorem dX5_takeBytes_0 : decode cX5_takeBytes 0 = .ok (.iload_n 1, 1) := by decide +kernel
theorem dX5_takeBytes_1 : decode cX5_takeBytes 1 = .ok (.iconst 1, 1) := by decide +kernel
theorem dX5_takeBytes_2 : decode cX5_takeBytes 2 = .ok (.isub, 1) := by decide +kernel
theorem dX5_takeBytes_3 : decode cX5_takeBytes 3 = .ok (.istore 4, 2) := by decide +kernel
theorem dX5_takeBytes_5 : decode cX5_takeBytes 5 = .ok (.iload 4, 2) := by decide +kernel
theorem dX5_takeBytes_7 : decode cX5_takeBytes 7 = .ok (.ifCond .lt 47, 3) := by decide +kernel
theorem dX5_takeBytes_10 : decode cX5_takeBytes 10 = .ok (.aload_n 0, 1) := by decide +kernel
theorem dX5_takeBytes_11 : decode cX5_takeBytes 11 = .ok (.getfield 22, 3) := by decide +kernel
theorem dX5_takeBytes_14 : decode cX5_takeBytes 14 = .ok (.sipush 500, 3) := by decide +kernel
theorem dX5_takeBytes_17 : decode cX5_takeBytes 17 = .ok (.if_icmp .ge 37, 3) := by decide +kernel
theorem dX5_takeBytes_20 : decode cX5_takeBytes 20 = .ok (.aload_n 0, 1) := by decide +kernel
theorem dX5_takeBytes_21 : decode cX5_takeBytes 21 = .ok (.getfield 18, 3) := by decide +kernel
theorem dX5_takeBytes_24 : decode cX5_takeBytes 24 = .ok (.aload_n 0, 1) := by decide +kernel
theorem dX5_takeBytes_25 : decode cX5_takeBytes 25 = .ok (.getfield 22, 3) := by decide +kernel
theorem dX5_takeBytes_28 : decode cX5_takeBytes 28 = .ok (.lload_n 2, 1) := by decide +kernel
theorem dX5_takeBytes_29 : decode cX5_takeBytes 29 = .ok (.bipush 8, 2) := by decide +kernel
theorem dX5_takeBytes_31 : decode cX5_takeBytes 31 = .ok (.iload 4, 2) := by decide +kernel
theorem dX5_takeBytes_33 : decode cX5_takeBytes 33 = .ok (.imul, 1) := by decide +kernel
theorem dX5_takeBytes_34 : decode cX5_takeBytes 34 = .ok (.lshr, 1) := by decide +kernel
theorem dX5_takeBytes_35 : decode cX5_takeBytes 35 = .ok (.l2i, 1) := by decide +kernel
theorem dX5_takeBytes_36 : decode cX5_takeBytes 36 = .ok (.i2b, 1) := by decide +kernel
theorem dX5_takeBytes_37 : decode cX5_takeBytes 37 = .ok (.bastore, 1) := by decide +kernel
theorem dX5_takeBytes_38 : decode cX5_takeBytes 38 = .ok (.aload_n 0, 1) := by decide +kernel
theorem dX5_takeBytes_39 : decode cX5_takeBytes 39 = .ok (.dup, 1) := by decide +kernel
theorem dX5_takeBytes_40 : decode cX5_takeBytes 40 = .ok (.getfield 22, 3) := by decide +kernel
theorem dX5_takeBytes_43 : decode cX5_takeBytes 43 = .ok (.iconst 1, 1) := by decide +kernel
theorem dX5_takeBytes_44 : decode cX5_takeBytes 44 = .ok (.iadd, 1) := by decide +kernel
theorem dX5_takeBytes_45 : decode cX5_takeBytes 45 = .ok (.putfield 22, 3) := by decide +kernel
theorem dX5_takeBytes_48 : decode cX5_takeBytes 48 = .ok (.iinc 4 (-1), 3) := by decide +kernel
theorem dX5_takeBytes_51 : decode cX5_takeBytes 51 = .ok (.goto (-46), 3) := by decide +kernel
theorem dX5_takeBytes_54 : decode cX5_takeBytes 54 = .ok (.return_, 1) := by decide +kernel
theorem dX5_readAll_0 : decode cX5_readAll 0 = .ok (.aload_n 0, 1) := by decide +kernel
theorem dX5_readAll_1 : decode cX5_readAll 1 = .ok (.getfield 12, 3) := by decide +kernel
theorem dX5_readAll_4 : decode cX5_readAll 4 = .ok (.invokevirtual 26, 3) := by decide +kernel
theorem dX5_readAll_7 : decode cX5_readAll 7 = .ok (.aload_n 0, 1) := by decide +kernel
theorem dX5_readAll_8 : decode cX5_readAll 8 = .ok (.iconst 0, 1) := by decide +kernel
theorem dX5_readAll_9 : decode cX5_readAll 9 = .ok (.putfield 29, 3) := by decide +kernel
theorem dX5_readAll_12 : decode cX5_readAll 12 = .ok (.aload_n 0, 1) := by decide +kernel
theorem dX5_readAll_13 : decode cX5_readAll 13 = .ok (.iconst (-1), 1) := by decide +kernel
theorem dX5_readAll_14 : decode cX5_readAll 14 = .ok (.putfield 32, 3) := by decide +kernel
theorem dX5_readAll_17 : decode cX5_readAll 17 = .ok (.aload_n 0, 1) := by decide +kernel
theorem dX5_readAll_18 : decode cX5_readAll 18 = .ok (.iconst 0, 1) := by decide +kernel
theorem dX5_readAll_19 : decode cX5_readAll 19 = .ok (.putfield 35, 3) := by decide +kernel
theorem dX5_readAll_22 : decode cX5_readAll 22 = .ok (.iconst 1, 1) := by decide +kernel
theorem dX5_readAll_23 : decode cX5_readAll 23 = .ok (.istore_n 1, 1) := by decide +kernel
theorem dX5_readAll_24 : decode cX5_readAll 24 = .ok (.iconst 0, 1) := by decide +kernel
theorem dX5_readAll_25 : decode cX5_readAll 25 = .ok (.istore_n 2, 1) := by decide +kernel
theorem dX5_readAll_26 : decode cX5_readAll 26 = .ok (.iload_n 2, 1) := by decide +kernel
theorem dX5_readAll_27 : decode cX5_readAll 27 = .ok (.sipush 500, 3) := by decide +kernel
theorem dX5_readAll_30 : decode cX5_readAll 30 = .ok (.if_icmp .ge 41, 3) := by decide +kernel
theorem dX5_readAll_33 : decode cX5_readAll 33 = .ok (.iload_n 1, 1) := by decide +kernel
theorem dX5_readAll_34 : decode cX5_readAll 34 = .ok (.ifCond .eq 37, 3) := by decide +kernel
theorem dX5_readAll_37 : decode cX5_readAll 37 = .ok (.aload_n 0, 1) := by decide +kernel
theorem dX5_readAll_38 : decode cX5_readAll 38 = .ok (.invokevirtual 38, 3) := by decide +kernel
theorem dX5_readAll_41 : decode cX5_readAll 41 = .ok (.aload_n 0, 1) := by decide +kernel
theorem dX5_readAll_42 : decode cX5_readAll 42 = .ok (.getfield 35, 3) := by decide +kernel
theorem dX5_readAll_45 : decode cX5_readAll 45 = .ok (.aload_n 0, 1) := by decide +kernel
theorem dX5_readAll_46 : decode cX5_readAll 46 = .ok (.getfield 22, 3) := by decide +kernel
theorem dX5_readAll_49 : decode cX5_readAll 49 = .ok (.if_icmp .ge 14, 3) := by decide +kernel
theorem dX5_readAll_52 : decode cX5_readAll 52 = .ok (.aload_n 0, 1) := by decide +kernel
theorem dX5_readAll_53 : decode cX5_readAll 53 = .ok (.invokevirtual 41, 3) := by decide +kernel
theorem dX5_readAll_56 : decode cX5_readAll 56 = .ok (.ifCond .eq 7, 3) := by decide +kernel
theorem dX5_readAll_59 : decode cX5_readAll 59 = .ok (.iconst 1, 1) := by decide +kernel
theorem dX5_readAll_60 : decode cX5_readAll 60 = .ok (.goto 4, 3) := by decide +kernel
theorem dX5_readAll_63 : decode cX5_readAll 63 = .ok (.iconst 0, 1) := by decide +kernel
theorem dX5_readAll_64 : decode cX5_readAll 64 = .ok (.istore_n 1, 1) := by decide +kernel
theorem dX5_readAll_65 : decode cX5_readAll 65 = .ok (.iinc 2 1, 3) := by decide +kernel
theorem dX5_readAll_68 : decode cX5_readAll 68 = .ok (.goto (-42), 3) := by decide +kernel
theorem dX5_readAll_71 : decode cX5_readAll 71 = .ok (.return_, 1) := by decide +kernel
theorem dX5_readClause_0 : decode cX5_readClause 0 = .ok (.aload_n 0, 1) := by decide +kernel
theorem dX5_readClause_1 : decode cX5_readClause 1 = .ok (.aload_n 0, 1) := by decide +kernel
theorem dX5_readClause_2 : decode cX5_readClause 2 = .ok (.getfield 35, 3) := by decide +kernel
theorem dX5_readClause_5 : decode cX5_readClause 5 = .ok (.putfield 45, 3) := by decide +kernel
theorem dX5_readClause_8 : decode cX5_readClause 8 = .ok (.aload_n 0, 1) := by decide +kernel
theorem dX5_readClause_9 : decode cX5_readClause 9 = .ok (.ldc 48, 2) := by decide +kernel
theorem dX5_readClause_11 : decode cX5_readClause 11 = .ok (.invokevirtual 50, 3) := by decide +kernel
theorem dX5_readClause_14 : decode cX5_readClause 14 = .ok (.ifCond .eq 31, 3) := by decide +kernel
theorem dX5_readClause_17 : decode cX5_readClause 17 = .ok (.aload_n 0, 1) := by decide +kernel
theorem dX5_readClause_18 : decode cX5_readClause 18 = .ok (.getfield 12, 3) := by decide +kernel
theorem dX5_readClause_21 : decode cX5_readClause 21 = .ok (.getfield 54, 3) := by decide +kernel
theorem dX5_readClause_24 : decode cX5_readClause 24 = .ok (.iconst 3, 1) := by decide +kernel
theorem dX5_readClause_25 : decode cX5_readClause 25 = .ok (.if_icmp .ge 10, 3) := by decide +kernel
theorem dX5_readClause_28 : decode cX5_readClause 28 = .ok (.aload_n 0, 1) := by decide +kernel
theorem dX5_readClause_29 : decode cX5_readClause 29 = .ok (.invokevirtual 57, 3) := by decide +kernel
theorem dX5_readClause_32 : decode cX5_readClause 32 = .ok (.goto 12, 3) := by decide +kernel
theorem dX5_readClause_35 : decode cX5_readClause 35 = .ok (.aload_n 0, 1) := by decide +kernel
theorem dX5_readClause_36 : decode cX5_readClause 36 = .ok (.iconst 3, 1) := by decide +kernel
theorem dX5_readClause_37 : decode cX5_readClause 37 = .ok (.aload_n 0, 1) := by decide +kernel
theorem dX5_readClause_38 : decode cX5_readClause 38 = .ok (.getfield 45, 3) := by decide +kernel
theorem dX5_readClause_41 : decode cX5_readClause 41 = .ok (.invokevirtual 60, 3) := by decide +kernel
theorem dX5_readClause_44 : decode cX5_readClause 44 = .ok (.ireturn, 1) := by decide +kernel
theorem dX5_readClause_45 : decode cX5_readClause 45 = .ok (.aload_n 0, 1) := by decide +kernel
theorem dX5_readClause_46 : decode cX5_readClause 46 = .ok (.ldc 64, 2) := by decide +kernel
theorem dX5_readClause_48 : decode cX5_readClause 48 = .ok (.invokevirtual 50, 3) := by decide +kernel
theorem dX5_readClause_51 : decode cX5_readClause 51 = .ok (.ifCond .eq 32, 3) := by decide +kernel
theorem dX5_readClause_54 : decode cX5_readClause 54 = .ok (.aload_n 0, 1) := by decide +kernel
theorem dX5_readClause_55 : decode cX5_readClause 55 = .ok (.getfield 12, 3) := by decide +kernel
theorem dX5_readClause_58 : decode cX5_readClause 58 = .ok (.getfield 66, 3) := by decide +kernel
theorem dX5_readClause_61 : decode cX5_readClause 61 = .ok (.bipush 6, 2) := by decide +kernel
theorem dX5_readClause_63 : decode cX5_readClause 63 = .ok (.if_icmp .ge 10, 3) := by decide +kernel
theorem dX5_readClause_66 : decode cX5_readClause 66 = .ok (.aload_n 0, 1) := by decide +kernel
theorem dX5_readClause_67 : decode cX5_readClause 67 = .ok (.invokevirtual 69, 3) := by decide +kernel
theorem dX5_readClause_70 : decode cX5_readClause 70 = .ok (.goto 12, 3) := by decide +kernel
theorem dX5_readClause_73 : decode cX5_readClause 73 = .ok (.aload_n 0, 1) := by decide +kernel
theorem dX5_readClause_74 : decode cX5_readClause 74 = .ok (.iconst 3, 1) := by decide +kernel
theorem dX5_readClause_75 : decode cX5_readClause 75 = .ok (.aload_n 0, 1) := by decide +kernel
theorem dX5_readClause_76 : decode cX5_readClause 76 = .ok (.getfield 45, 3) := by decide +kernel
theorem dX5_readClause_79 : decode cX5_readClause 79 = .ok (.invokevirtual 60, 3) := by decide +kernel
theorem dX5_readClause_82 : decode cX5_readClause 82 = .ok (.ireturn, 1) := by decide +kernel
theorem dX5_readClause_83 : decode cX5_readClause 83 = .ok (.aload_n 0, 1) := by decide +kernel
theorem dX5_readClause_84 : decode cX5_readClause 84 = .ok (.ldc 72, 2) := by decide +kernel
theorem dX5_readClause_86 : decode cX5_readClause 86 = .ok (.invokevirtual 50, 3) := by decide +kernel
theorem dX5_readClause_89 : decode cX5_readClause 89 = .ok (.ifCond .eq 32, 3) := by decide +kernel
theorem dX5_readClause_92 : decode cX5_readClause 92 = .ok (.aload_n 0, 1) := by decide +kernel
theorem dX5_readClause_93 : decode cX5_readClause 93 = .ok (.getfield 12, 3) := by decide +kernel
theorem dX5_readClause_96 : decode cX5_readClause 96 = .ok (.getfield 74, 3) := by decide +kernel
theorem dX5_readClause_99 : decode cX5_readClause 99 = .ok (.bipush 15, 2) := by decide +kernel
theorem dX5_readClause_101 : decode cX5_readClause 101 = .ok (.if_icmp .ge 10, 3) := by decide +kernel
theorem dX5_readClause_104 : decode cX5_readClause 104 = .ok (.aload_n 0, 1) := by decide +kernel
theorem dX5_readClause_105 : decode cX5_readClause 105 = .ok (.invokevirtual 77, 3) := by decide +kernel
theorem dX5_readClause_108 : decode cX5_readClause 108 = .ok (.goto 12, 3) := by decide +kernel
theorem dX5_readClause_111 : decode cX5_readClause 111 = .ok (.aload_n 0, 1) := by decide +kernel
theorem dX5_readClause_112 : decode cX5_readClause 112 = .ok (.iconst 3, 1) := by decide +kernel
theorem dX5_readClause_113 : decode cX5_readClause 113 = .ok (.aload_n 0, 1) := by decide +kernel
theorem dX5_readClause_114 : decode cX5_readClause 114 = .ok (.getfield 45, 3) := by decide +kernel
theorem dX5_readClause_117 : decode cX5_readClause 117 = .ok (.invokevirtual 60, 3) := by decide +kernel
theorem dX5_readClause_120 : decode cX5_readClause 120 = .ok (.ireturn, 1) := by decide +kernel
theorem dX5_readClause_121 : decode cX5_readClause 121 = .ok (.aload_n 0, 1) := by decide +kernel
theorem dX5_readClause_122 : decode cX5_readClause 122 = .ok (.iconst 1, 1) := by decide +kernel
theorem dX5_readClause_123 : decode cX5_readClause 123 = .ok (.aload_n 0, 1) := by decide +kernel
theorem dX5_readClause_124 : decode cX5_readClause 124 = .ok (.getfield 45, 3) := by decide +kernel
theorem dX5_readClause_127 : decode cX5_readClause 127 = .ok (.invokevirtual 60, 3) := by decide +kernel
theorem dX5_readClause_130 : decode cX5_readClause 130 = .ok (.ireturn, 1) := by decide +kernel
theorem dX5_readRoom_0 : decode cX5_readRoom 0 = .ok (.aload_n 0, 1) := by decide +kernel
theorem dX5_readRoom_1 : decode cX5_readRoom 1 = .ok (.getfield 12, 3) := by decide +kernel
theorem dX5_readRoom_4 : decode cX5_readRoom 4 = .ok (.getfield 54, 3) := by decide +kernel
theorem dX5_readRoom_7 : decode cX5_readRoom 7 = .ok (.istore_n 1, 1) := by decide +kernel
theorem dX5_readRoom_8 : decode cX5_readRoom 8 = .ok (.iconst 0, 1) := by decide +kernel
theorem dX5_readRoom_9 : decode cX5_readRoom 9 = .ok (.istore_n 2, 1) := by decide +kernel
theorem dX5_readRoom_10 : decode cX5_readRoom 10 = .ok (.iconst 1, 1) := by decide +kernel
theorem dX5_readRoom_11 : decode cX5_readRoom 11 = .ok (.istore_n 3, 1) := by decide +kernel
theorem dX5_readRoom_12 : decode cX5_readRoom 12 = .ok (.iconst 0, 1) := by decide +kernel
theorem dX5_readRoom_13 : decode cX5_readRoom 13 = .ok (.istore 4, 2) := by decide +kernel
theorem dX5_readRoom_15 : decode cX5_readRoom 15 = .ok (.iload 4, 2) := by decide +kernel
theorem dX5_readRoom_17 : decode cX5_readRoom 17 = .ok (.bipush 6, 2) := by decide +kernel
theorem dX5_readRoom_19 : decode cX5_readRoom 19 = .ok (.if_icmp .gt 69, 3) := by decide +kernel
theorem dX5_readRoom_22 : decode cX5_readRoom 22 = .ok (.iload_n 3, 1) := by decide +kernel
theorem dX5_readRoom_23 : decode cX5_readRoom 23 = .ok (.ifCond .eq 65, 3) := by decide +kernel
theorem dX5_readRoom_26 : decode cX5_readRoom 26 = .ok (.aload_n 0, 1) := by decide +kernel
theorem dX5_readRoom_27 : decode cX5_readRoom 27 = .ok (.iconst 0, 1) := by decide +kernel
theorem dX5_readRoom_28 : decode cX5_readRoom 28 = .ok (.bipush 40, 2) := by decide +kernel
theorem dX5_readRoom_30 : decode cX5_readRoom 30 = .ok (.invokevirtual 80, 3) := by decide +kernel
theorem dX5_readRoom_33 : decode cX5_readRoom 33 = .ok (.ifCond .ne 5, 3) := by decide +kernel
theorem dX5_readRoom_36 : decode cX5_readRoom 36 = .ok (.iconst 0, 1) := by decide +kernel
theorem dX5_readRoom_37 : decode cX5_readRoom 37 = .ok (.ireturn, 1) := by decide +kernel
theorem dX5_readRoom_38 : decode cX5_readRoom 38 = .ok (.iload_n 2, 1) := by decide +kernel
theorem dX5_readRoom_39 : decode cX5_readRoom 39 = .ok (.bipush 6, 2) := by decide +kernel
theorem dX5_readRoom_41 : decode cX5_readRoom 41 = .ok (.if_icmp .lt 13, 3) := by decide +kernel
theorem dX5_readRoom_44 : decode cX5_readRoom 44 = .ok (.aload_n 0, 1) := by decide +kernel
theorem dX5_readRoom_45 : decode cX5_readRoom 45 = .ok (.iconst 4, 1) := by decide +kernel
theorem dX5_readRoom_46 : decode cX5_readRoom 46 = .ok (.aload_n 0, 1) := by decide +kernel
theorem dX5_readRoom_47 : decode cX5_readRoom 47 = .ok (.getfield 45, 3) := by decide +kernel
theorem dX5_readRoom_50 : decode cX5_readRoom 50 = .ok (.invokevirtual 60, 3) := by decide +kernel
theorem dX5_readRoom_53 : decode cX5_readRoom 53 = .ok (.ireturn, 1) := by decide +kernel
theorem dX5_readRoom_54 : decode cX5_readRoom 54 = .ok (.aload_n 0, 1) := by decide +kernel
theorem dX5_readRoom_55 : decode cX5_readRoom 55 = .ok (.getfield 12, 3) := by decide +kernel
theorem dX5_readRoom_58 : decode cX5_readRoom 58 = .ok (.getfield 83, 3) := by decide +kernel
theorem dX5_readRoom_61 : decode cX5_readRoom 61 = .ok (.iload_n 1, 1) := by decide +kernel
theorem dX5_readRoom_62 : decode cX5_readRoom 62 = .ok (.bipush 6, 2) := by decide +kernel
theorem dX5_readRoom_64 : decode cX5_readRoom 64 = .ok (.imul, 1) := by decide +kernel
theorem dX5_readRoom_65 : decode cX5_readRoom 65 = .ok (.iload_n 2, 1) := by decide +kernel
theorem dX5_readRoom_66 : decode cX5_readRoom 66 = .ok (.iadd, 1) := by decide +kernel
theorem dX5_readRoom_67 : decode cX5_readRoom 67 = .ok (.aload_n 0, 1) := by decide +kernel
theorem dX5_readRoom_68 : decode cX5_readRoom 68 = .ok (.getfield 87, 3) := by decide +kernel
theorem dX5_readRoom_71 : decode cX5_readRoom 71 = .ok (.iastore, 1) := by decide +kernel
theorem dX5_readRoom_72 : decode cX5_readRoom 72 = .ok (.iinc 2 1, 3) := by decide +kernel
theorem dX5_readRoom_75 : decode cX5_readRoom 75 = .ok (.aload_n 0, 1) := by decide +kernel
theorem dX5_readRoom_76 : decode cX5_readRoom 76 = .ok (.bipush 44, 2) := by decide +kernel
theorem dX5_readRoom_78 : decode cX5_readRoom 78 = .ok (.invokevirtual 90, 3) := by decide +kernel
theorem dX5_readRoom_81 : decode cX5_readRoom 81 = .ok (.istore_n 3, 1) := by decide +kernel
theorem dX5_readRoom_82 : decode cX5_readRoom 82 = .ok (.iinc 4 1, 3) := by decide +kernel
theorem dX5_readRoom_85 : decode cX5_readRoom 85 = .ok (.goto (-70), 3) := by decide +kernel
theorem dX5_readRoom_88 : decode cX5_readRoom 88 = .ok (.aload_n 0, 1) := by decide +kernel
theorem dX5_readRoom_89 : decode cX5_readRoom 89 = .ok (.getfield 12, 3) := by decide +kernel
theorem dX5_readRoom_92 : decode cX5_readRoom 92 = .ok (.getfield 94, 3) := by decide +kernel
theorem dX5_readRoom_95 : decode cX5_readRoom 95 = .ok (.iload_n 1, 1) := by decide +kernel
theorem dX5_readRoom_96 : decode cX5_readRoom 96 = .ok (.iload_n 2, 1) := by decide +kernel
theorem dX5_readRoom_97 : decode cX5_readRoom 97 = .ok (.iastore, 1) := by decide +kernel
theorem dX5_readRoom_98 : decode cX5_readRoom 98 = .ok (.aload_n 0, 1) := by decide +kernel
theorem dX5_readRoom_99 : decode cX5_readRoom 99 = .ok (.getfield 12, 3) := by decide +kernel
theorem dX5_readRoom_102 : decode cX5_readRoom 102 = .ok (.dup, 1) := by decide +kernel
theorem dX5_readRoom_103 : decode cX5_readRoom 103 = .ok (.getfield 54, 3) := by decide +kernel
theorem dX5_readRoom_106 : decode cX5_readRoom 106 = .ok (.iconst 1, 1) := by decide +kernel
theorem dX5_readRoom_107 : decode cX5_readRoom 107 = .ok (.iadd, 1) := by decide +kernel
theorem dX5_readRoom_108 : decode cX5_readRoom 108 = .ok (.putfield 54, 3) := by decide +kernel
theorem dX5_readRoom_111 : decode cX5_readRoom 111 = .ok (.aload_n 0, 1) := by decide +kernel
theorem dX5_readRoom_112 : decode cX5_readRoom 112 = .ok (.invokevirtual 97, 3) := by decide +kernel
theorem dX5_readRoom_115 : decode cX5_readRoom 115 = .ok (.ireturn, 1) := by decide +kernel
theorem dX5_readPerson_0 : decode cX5_readPerson 0 = .ok (.aload_n 0, 1) := by decide +kernel
theorem dX5_readPerson_1 : decode cX5_readPerson 1 = .ok (.getfield 12, 3) := by decide +kernel
theorem dX5_readPerson_4 : decode cX5_readPerson 4 = .ok (.getfield 66, 3) := by decide +kernel
theorem dX5_readPerson_7 : decode cX5_readPerson 7 = .ok (.istore_n 1, 1) := by decide +kernel
theorem dX5_readPerson_8 : decode cX5_readPerson 8 = .ok (.aload_n 0, 1) := by decide +kernel
theorem dX5_readPerson_9 : decode cX5_readPerson 9 = .ok (.iconst 0, 1) := by decide +kernel
theorem dX5_readPerson_10 : decode cX5_readPerson 10 = .ok (.bipush 99, 2) := by decide +kernel
theorem dX5_readPerson_12 : decode cX5_readPerson 12 = .ok (.invokevirtual 80, 3) := by decide +kernel
theorem dX5_readPerson_15 : decode cX5_readPerson 15 = .ok (.ifCond .ne 5, 3) := by decide +kernel
theorem dX5_readPerson_18 : decode cX5_readPerson 18 = .ok (.iconst 0, 1) := by decide +kernel
theorem dX5_readPerson_19 : decode cX5_readPerson 19 = .ok (.ireturn, 1) := by decide +kernel
theorem dX5_readPerson_20 : decode cX5_readPerson 20 = .ok (.iconst 0, 1) := by decide +kernel
theorem dX5_readPerson_21 : decode cX5_readPerson 21 = .ok (.istore_n 2, 1) := by decide +kernel
theorem dX5_readPerson_22 : decode cX5_readPerson 22 = .ok (.iload_n 2, 1) := by decide +kernel
theorem dX5_readPerson_23 : decode cX5_readPerson 23 = .ok (.iload_n 1, 1) := by decide +kernel
theorem dX5_readPerson_24 : decode cX5_readPerson 24 = .ok (.if_icmp .ge 35, 3) := by decide +kernel
theorem dX5_readPerson_27 : decode cX5_readPerson 27 = .ok (.aload_n 0, 1) := by decide +kernel
theorem dX5_readPerson_28 : decode cX5_readPerson 28 = .ok (.getfield 12, 3) := by decide +kernel
theorem dX5_readPerson_31 : decode cX5_readPerson 31 = .ok (.getfield 100, 3) := by decide +kernel
theorem dX5_readPerson_34 : decode cX5_readPerson 34 = .ok (.iload_n 2, 1) := by decide +kernel
theorem dX5_readPerson_35 : decode cX5_readPerson 35 = .ok (.iaload, 1) := by decide +kernel
theorem dX5_readPerson_36 : decode cX5_readPerson 36 = .ok (.aload_n 0, 1) := by decide +kernel
theorem dX5_readPerson_37 : decode cX5_readPerson 37 = .ok (.getfield 87, 3) := by decide +kernel
theorem dX5_readPerson_40 : decode cX5_readPerson 40 = .ok (.if_icmp .ne 13, 3) := by decide +kernel
theorem dX5_readPerson_43 : decode cX5_readPerson 43 = .ok (.aload_n 0, 1) := by decide +kernel
theorem dX5_readPerson_44 : decode cX5_readPerson 44 = .ok (.iconst 4, 1) := by decide +kernel
theorem dX5_readPerson_45 : decode cX5_readPerson 45 = .ok (.aload_n 0, 1) := by decide +kernel
theorem dX5_readPerson_46 : decode cX5_readPerson 46 = .ok (.getfield 45, 3) := by decide +kernel
theorem dX5_readPerson_49 : decode cX5_readPerson 49 = .ok (.invokevirtual 60, 3) := by decide +kernel
theorem dX5_readPerson_52 : decode cX5_readPerson 52 = .ok (.ireturn, 1) := by decide +kernel
theorem dX5_readPerson_53 : decode cX5_readPerson 53 = .ok (.iinc 2 1, 3) := by decide +kernel
theorem dX5_readPerson_56 : decode cX5_readPerson 56 = .ok (.goto (-34), 3) := by decide +kernel
theorem dX5_readPerson_59 : decode cX5_readPerson 59 = .ok (.aload_n 0, 1) := by decide +kernel
theorem dX5_readPerson_60 : decode cX5_readPerson 60 = .ok (.getfield 12, 3) := by decide +kernel
theorem dX5_readPerson_63 : decode cX5_readPerson 63 = .ok (.getfield 100, 3) := by decide +kernel
theorem dX5_readPerson_66 : decode cX5_readPerson 66 = .ok (.iload_n 1, 1) := by decide +kernel
theorem dX5_readPerson_67 : decode cX5_readPerson 67 = .ok (.aload_n 0, 1) := by decide +kernel
theorem dX5_readPerson_68 : decode cX5_readPerson 68 = .ok (.getfield 87, 3) := by decide +kernel
theorem dX5_readPerson_71 : decode cX5_readPerson 71 = .ok (.iastore, 1) := by decide +kernel
theorem dX5_readPerson_72 : decode cX5_readPerson 72 = .ok (.aload_n 0, 1) := by decide +kernel
theorem dX5_readPerson_73 : decode cX5_readPerson 73 = .ok (.bipush 20, 2) := by decide +kernel
theorem dX5_readPerson_75 : decode cX5_readPerson 75 = .ok (.bipush 90, 2) := by decide +kernel
theorem dX5_readPerson_77 : decode cX5_readPerson 77 = .ok (.invokevirtual 80, 3) := by decide +kernel
theorem dX5_readPerson_80 : decode cX5_readPerson 80 = .ok (.ifCond .ne 5, 3) := by decide +kernel
theorem dX5_readPerson_83 : decode cX5_readPerson 83 = .ok (.iconst 0, 1) := by decide +kernel
theorem dX5_readPerson_84 : decode cX5_readPerson 84 = .ok (.ireturn, 1) := by decide +kernel
theorem dX5_readPerson_85 : decode cX5_readPerson 85 = .ok (.aload_n 0, 1) := by decide +kernel
theorem dX5_readPerson_86 : decode cX5_readPerson 86 = .ok (.getfield 12, 3) := by decide +kernel
theorem dX5_readPerson_89 : decode cX5_readPerson 89 = .ok (.getfield 103, 3) := by decide +kernel
theorem dX5_readPerson_92 : decode cX5_readPerson 92 = .ok (.iload_n 1, 1) := by decide +kernel
theorem dX5_readPerson_93 : decode cX5_readPerson 93 = .ok (.aload_n 0, 1) := by decide +kernel
theorem dX5_readPerson_94 : decode cX5_readPerson 94 = .ok (.getfield 87, 3) := by decide +kernel
theorem dX5_readPerson_97 : decode cX5_readPerson 97 = .ok (.iastore, 1) := by decide +kernel
theorem dX5_readPerson_98 : decode cX5_readPerson 98 = .ok (.aload_n 0, 1) := by decide +kernel
theorem dX5_readPerson_99 : decode cX5_readPerson 99 = .ok (.iconst 0, 1) := by decide +kernel
theorem dX5_readPerson_100 : decode cX5_readPerson 100 = .ok (.bipush 40, 2) := by decide +kernel
theorem dX5_readPerson_102 : decode cX5_readPerson 102 = .ok (.invokevirtual 80, 3) := by decide +kernel
theorem dX5_readPerson_105 : decode cX5_readPerson 105 = .ok (.ifCond .ne 5, 3) := by decide +kernel
theorem dX5_readPerson_108 : decode cX5_readPerson 108 = .ok (.iconst 0, 1) := by decide +kernel
theorem dX5_readPerson_109 : decode cX5_readPerson 109 = .ok (.ireturn, 1) := by decide +kernel
theorem dX5_readPerson_110 : decode cX5_readPerson 110 = .ok (.aload_n 0, 1) := by decide +kernel
theorem dX5_readPerson_111 : decode cX5_readPerson 111 = .ok (.getfield 12, 3) := by decide +kernel
theorem dX5_readPerson_114 : decode cX5_readPerson 114 = .ok (.getfield 106, 3) := by decide +kernel
theorem dX5_readPerson_117 : decode cX5_readPerson 117 = .ok (.iload_n 1, 1) := by decide +kernel
theorem dX5_readPerson_118 : decode cX5_readPerson 118 = .ok (.aload_n 0, 1) := by decide +kernel
theorem dX5_readPerson_119 : decode cX5_readPerson 119 = .ok (.getfield 87, 3) := by decide +kernel
theorem dX5_readPerson_122 : decode cX5_readPerson 122 = .ok (.iastore, 1) := by decide +kernel
theorem dX5_readPerson_123 : decode cX5_readPerson 123 = .ok (.aload_n 0, 1) := by decide +kernel
theorem dX5_readPerson_124 : decode cX5_readPerson 124 = .ok (.iconst 0, 1) := by decide +kernel
theorem dX5_readPerson_125 : decode cX5_readPerson 125 = .ok (.bipush 9, 2) := by decide +kernel
theorem dX5_readPerson_127 : decode cX5_readPerson 127 = .ok (.invokevirtual 80, 3) := by decide +kernel
theorem dX5_readPerson_130 : decode cX5_readPerson 130 = .ok (.ifCond .ne 5, 3) := by decide +kernel
theorem dX5_readPerson_133 : decode cX5_readPerson 133 = .ok (.iconst 0, 1) := by decide +kernel
theorem dX5_readPerson_134 : decode cX5_readPerson 134 = .ok (.ireturn, 1) := by decide +kernel
theorem dX5_readPerson_135 : decode cX5_readPerson 135 = .ok (.aload_n 0, 1) := by decide +kernel
theorem dX5_readPerson_136 : decode cX5_readPerson 136 = .ok (.getfield 12, 3) := by decide +kernel
theorem dX5_readPerson_139 : decode cX5_readPerson 139 = .ok (.getfield 109, 3) := by decide +kernel
theorem dX5_readPerson_142 : decode cX5_readPerson 142 = .ok (.iload_n 1, 1) := by decide +kernel
theorem dX5_readPerson_143 : decode cX5_readPerson 143 = .ok (.aload_n 0, 1) := by decide +kernel
theorem dX5_readPerson_144 : decode cX5_readPerson 144 = .ok (.getfield 87, 3) := by decide +kernel
theorem dX5_readPerson_147 : decode cX5_readPerson 147 = .ok (.iastore, 1) := by decide +kernel
theorem dX5_readPerson_148 : decode cX5_readPerson 148 = .ok (.aload_n 0, 1) := by decide +kernel
theorem dX5_readPerson_149 : decode cX5_readPerson 149 = .ok (.getfield 12, 3) := by decide +kernel
theorem dX5_readPerson_152 : decode cX5_readPerson 152 = .ok (.dup, 1) := by decide +kernel
theorem dX5_readPerson_153 : decode cX5_readPerson 153 = .ok (.getfield 66, 3) := by decide +kernel
theorem dX5_readPerson_156 : decode cX5_readPerson 156 = .ok (.iconst 1, 1) := by decide +kernel
theorem dX5_readPerson_157 : decode cX5_readPerson 157 = .ok (.iadd, 1) := by decide +kernel
theorem dX5_readPerson_158 : decode cX5_readPerson 158 = .ok (.putfield 66, 3) := by decide +kernel
theorem dX5_readPerson_161 : decode cX5_readPerson 161 = .ok (.aload_n 0, 1) := by decide +kernel
theorem dX5_readPerson_162 : decode cX5_readPerson 162 = .ok (.invokevirtual 97, 3) := by decide +kernel
theorem dX5_readPerson_165 : decode cX5_readPerson 165 = .ok (.ireturn, 1) := by decide +kernel
theorem dX5_readFriends_0 : decode cX5_readFriends 0 = .ok (.aload_n 0, 1) := by decide +kernel
theorem dX5_readFriends_1 : decode cX5_readFriends 1 = .ok (.iconst 0, 1) := by decide +kernel
theorem dX5_readFriends_2 : decode cX5_readFriends 2 = .ok (.aload_n 0, 1) := by decide +kernel
theorem dX5_readFriends_3 : decode cX5_readFriends 3 = .ok (.getfield 12, 3) := by decide +kernel
theorem dX5_readFriends_6 : decode cX5_readFriends 6 = .ok (.getfield 66, 3) := by decide +kernel
theorem dX5_readFriends_9 : decode cX5_readFriends 9 = .ok (.iconst 1, 1) := by decide +kernel
theorem dX5_readFriends_10 : decode cX5_readFriends 10 = .ok (.isub, 1) := by decide +kernel
theorem dX5_readFriends_11 : decode cX5_readFriends 11 = .ok (.invokevirtual 80, 3) := by decide +kernel
theorem dX5_readFriends_14 : decode cX5_readFriends 14 = .ok (.ifCond .ne 5, 3) := by decide +kernel
theorem dX5_readFriends_17 : decode cX5_readFriends 17 = .ok (.iconst 0, 1) := by decide +kernel
theorem dX5_readFriends_18 : decode cX5_readFriends 18 = .ok (.ireturn, 1) := by decide +kernel
theorem dX5_readFriends_19 : decode cX5_readFriends 19 = .ok (.aload_n 0, 1) := by decide +kernel
theorem dX5_readFriends_20 : decode cX5_readFriends 20 = .ok (.getfield 87, 3) := by decide +kernel
theorem dX5_readFriends_23 : decode cX5_readFriends 23 = .ok (.istore_n 1, 1) := by decide +kernel
theorem dX5_readFriends_24 : decode cX5_readFriends 24 = .ok (.aload_n 0, 1) := by decide +kernel
theorem dX5_readFriends_25 : decode cX5_readFriends 25 = .ok (.iconst 0, 1) := by decide +kernel
theorem dX5_readFriends_26 : decode cX5_readFriends 26 = .ok (.aload_n 0, 1) := by decide +kernel
theorem dX5_readFriends_27 : decode cX5_readFriends 27 = .ok (.getfield 12, 3) := by decide +kernel
theorem dX5_readFriends_30 : decode cX5_readFriends 30 = .ok (.getfield 66, 3) := by decide +kernel
theorem dX5_readFriends_33 : decode cX5_readFriends 33 = .ok (.iconst 1, 1) := by decide +kernel
theorem dX5_readFriends_34 : decode cX5_readFriends 34 = .ok (.isub, 1) := by decide +kernel
theorem dX5_readFriends_35 : decode cX5_readFriends 35 = .ok (.invokevirtual 80, 3) := by decide +kernel
theorem dX5_readFriends_38 : decode cX5_readFriends 38 = .ok (.ifCond .ne 5, 3) := by decide +kernel
theorem dX5_readFriends_41 : decode cX5_readFriends 41 = .ok (.iconst 0, 1) := by decide +kernel
theorem dX5_readFriends_42 : decode cX5_readFriends 42 = .ok (.ireturn, 1) := by decide +kernel
theorem dX5_readFriends_43 : decode cX5_readFriends 43 = .ok (.aload_n 0, 1) := by decide +kernel
theorem dX5_readFriends_44 : decode cX5_readFriends 44 = .ok (.getfield 87, 3) := by decide +kernel
theorem dX5_readFriends_47 : decode cX5_readFriends 47 = .ok (.istore_n 2, 1) := by decide +kernel
theorem dX5_readFriends_48 : decode cX5_readFriends 48 = .ok (.iload_n 1, 1) := by decide +kernel
theorem dX5_readFriends_49 : decode cX5_readFriends 49 = .ok (.iload_n 2, 1) := by decide +kernel
theorem dX5_readFriends_50 : decode cX5_readFriends 50 = .ok (.if_icmp .eq 15, 3) := by decide +kernel
theorem dX5_readFriends_53 : decode cX5_readFriends 53 = .ok (.aload_n 0, 1) := by decide +kernel
theorem dX5_readFriends_54 : decode cX5_readFriends 54 = .ok (.getfield 12, 3) := by decide +kernel
theorem dX5_readFriends_57 : decode cX5_readFriends 57 = .ok (.iload_n 1, 1) := by decide +kernel
theorem dX5_readFriends_58 : decode cX5_readFriends 58 = .ok (.iload_n 2, 1) := by decide +kernel
theorem dX5_readFriends_59 : decode cX5_readFriends 59 = .ok (.invokevirtual 112, 3) := by decide +kernel
theorem dX5_readFriends_62 : decode cX5_readFriends 62 = .ok (.ifCond .eq 13, 3) := by decide +kernel
theorem dX5_readFriends_65 : decode cX5_readFriends 65 = .ok (.aload_n 0, 1) := by decide +kernel
theorem dX5_readFriends_66 : decode cX5_readFriends 66 = .ok (.iconst 4, 1) := by decide +kernel
theorem dX5_readFriends_67 : decode cX5_readFriends 67 = .ok (.aload_n 0, 1) := by decide +kernel
theorem dX5_readFriends_68 : decode cX5_readFriends 68 = .ok (.getfield 45, 3) := by decide +kernel
theorem dX5_readFriends_71 : decode cX5_readFriends 71 = .ok (.invokevirtual 60, 3) := by decide +kernel
theorem dX5_readFriends_74 : decode cX5_readFriends 74 = .ok (.ireturn, 1) := by decide +kernel
theorem dX5_readFriends_75 : decode cX5_readFriends 75 = .ok (.aload_n 0, 1) := by decide +kernel
theorem dX5_readFriends_76 : decode cX5_readFriends 76 = .ok (.iconst 1, 1) := by decide +kernel
theorem dX5_readFriends_77 : decode cX5_readFriends 77 = .ok (.bipush 99, 2) := by decide +kernel
theorem dX5_readFriends_79 : decode cX5_readFriends 79 = .ok (.invokevirtual 80, 3) := by decide +kernel
theorem dX5_readFriends_82 : decode cX5_readFriends 82 = .ok (.ifCond .ne 5, 3) := by decide +kernel
theorem dX5_readFriends_85 : decode cX5_readFriends 85 = .ok (.iconst 0, 1) := by decide +kernel
theorem dX5_readFriends_86 : decode cX5_readFriends 86 = .ok (.ireturn, 1) := by decide +kernel
theorem dX5_readFriends_87 : decode cX5_readFriends 87 = .ok (.aload_n 0, 1) := by decide +kernel
theorem dX5_readFriends_88 : decode cX5_readFriends 88 = .ok (.getfield 12, 3) := by decide +kernel
theorem dX5_readFriends_91 : decode cX5_readFriends 91 = .ok (.getfield 116, 3) := by decide +kernel
theorem dX5_readFriends_94 : decode cX5_readFriends 94 = .ok (.iload_n 1, 1) := by decide +kernel
theorem dX5_readFriends_95 : decode cX5_readFriends 95 = .ok (.bipush 6, 2) := by decide +kernel
theorem dX5_readFriends_97 : decode cX5_readFriends 97 = .ok (.imul, 1) := by decide +kernel
theorem dX5_readFriends_98 : decode cX5_readFriends 98 = .ok (.iload_n 2, 1) := by decide +kernel
theorem dX5_readFriends_99 : decode cX5_readFriends 99 = .ok (.iadd, 1) := by decide +kernel
theorem dX5_readFriends_100 : decode cX5_readFriends 100 = .ok (.aload_n 0, 1) := by decide +kernel
theorem dX5_readFriends_101 : decode cX5_readFriends 101 = .ok (.getfield 87, 3) := by decide +kernel
theorem dX5_readFriends_104 : decode cX5_readFriends 104 = .ok (.iastore, 1) := by decide +kernel
theorem dX5_readFriends_105 : decode cX5_readFriends 105 = .ok (.aload_n 0, 1) := by decide +kernel
theorem dX5_readFriends_106 : decode cX5_readFriends 106 = .ok (.getfield 12, 3) := by decide +kernel
theorem dX5_readFriends_109 : decode cX5_readFriends 109 = .ok (.getfield 116, 3) := by decide +kernel
theorem dX5_readFriends_112 : decode cX5_readFriends 112 = .ok (.iload_n 2, 1) := by decide +kernel
theorem dX5_readFriends_113 : decode cX5_readFriends 113 = .ok (.bipush 6, 2) := by decide +kernel
theorem dX5_readFriends_115 : decode cX5_readFriends 115 = .ok (.imul, 1) := by decide +kernel
theorem dX5_readFriends_116 : decode cX5_readFriends 116 = .ok (.iload_n 1, 1) := by decide +kernel
theorem dX5_readFriends_117 : decode cX5_readFriends 117 = .ok (.iadd, 1) := by decide +kernel
theorem dX5_readFriends_118 : decode cX5_readFriends 118 = .ok (.aload_n 0, 1) := by decide +kernel
theorem dX5_readFriends_119 : decode cX5_readFriends 119 = .ok (.getfield 87, 3) := by decide +kernel
theorem dX5_readFriends_122 : decode cX5_readFriends 122 = .ok (.iastore, 1) := by decide +kernel
theorem dX5_readFriends_123 : decode cX5_readFriends 123 = .ok (.aload_n 0, 1) := by decide +kernel
theorem dX5_readFriends_124 : decode cX5_readFriends 124 = .ok (.getfield 12, 3) := by decide +kernel
theorem dX5_readFriends_127 : decode cX5_readFriends 127 = .ok (.dup, 1) := by decide +kernel
theorem dX5_readFriends_128 : decode cX5_readFriends 128 = .ok (.getfield 74, 3) := by decide +kernel
theorem dX5_readFriends_131 : decode cX5_readFriends 131 = .ok (.iconst 1, 1) := by decide +kernel
theorem dX5_readFriends_132 : decode cX5_readFriends 132 = .ok (.iadd, 1) := by decide +kernel
theorem dX5_readFriends_133 : decode cX5_readFriends 133 = .ok (.putfield 74, 3) := by decide +kernel
theorem dX5_readFriends_136 : decode cX5_readFriends 136 = .ok (.aload_n 0, 1) := by decide +kernel
theorem dX5_readFriends_137 : decode cX5_readFriends 137 = .ok (.invokevirtual 97, 3) := by decide +kernel
theorem dX5_readFriends_140 : decode cX5_readFriends 140 = .ok (.ireturn, 1) := by decide +kernel
theorem dX5_readEnd_0 : decode cX5_readEnd 0 = .ok (.aload_n 0, 1) := by decide +kernel
theorem dX5_readEnd_1 : decode cX5_readEnd 1 = .ok (.bipush 59, 2) := by decide +kernel
theorem dX5_readEnd_3 : decode cX5_readEnd 3 = .ok (.invokevirtual 90, 3) := by decide +kernel
theorem dX5_readEnd_6 : decode cX5_readEnd 6 = .ok (.ifCond .ne 15, 3) := by decide +kernel
theorem dX5_readEnd_9 : decode cX5_readEnd 9 = .ok (.aload_n 0, 1) := by decide +kernel
theorem dX5_readEnd_10 : decode cX5_readEnd 10 = .ok (.iconst 1, 1) := by decide +kernel
theorem dX5_readEnd_11 : decode cX5_readEnd 11 = .ok (.aload_n 0, 1) := by decide +kernel
theorem dX5_readEnd_12 : decode cX5_readEnd 12 = .ok (.getfield 35, 3) := by decide +kernel
theorem dX5_readEnd_15 : decode cX5_readEnd 15 = .ok (.invokevirtual 60, 3) := by decide +kernel
theorem dX5_readEnd_18 : decode cX5_readEnd 18 = .ok (.ifCond .eq 7, 3) := by decide +kernel
theorem dX5_readEnd_21 : decode cX5_readEnd 21 = .ok (.iconst 1, 1) := by decide +kernel
theorem dX5_readEnd_22 : decode cX5_readEnd 22 = .ok (.goto 4, 3) := by decide +kernel
theorem dX5_readEnd_25 : decode cX5_readEnd 25 = .ok (.iconst 0, 1) := by decide +kernel
theorem dX5_readEnd_26 : decode cX5_readEnd 26 = .ok (.ireturn, 1) := by decide +kernel
theorem dX5_isFault_0 : decode cX5_isFault 0 = .ok (.aload_n 0, 1) := by decide +kernel
theorem dX5_isFault_1 : decode cX5_isFault 1 = .ok (.iload_n 1, 1) := by decide +kernel
theorem dX5_isFault_2 : decode cX5_isFault 2 = .ok (.putfield 29, 3) := by decide +kernel
theorem dX5_isFault_5 : decode cX5_isFault 5 = .ok (.aload_n 0, 1) := by decide +kernel
theorem dX5_isFault_6 : decode cX5_isFault 6 = .ok (.iload_n 2, 1) := by decide +kernel
theorem dX5_isFault_7 : decode cX5_isFault 7 = .ok (.putfield 32, 3) := by decide +kernel
theorem dX5_isFault_10 : decode cX5_isFault 10 = .ok (.iconst 0, 1) := by decide +kernel
theorem dX5_isFault_11 : decode cX5_isFault 11 = .ok (.ireturn, 1) := by decide +kernel
theorem dX5_skipBlanks_0 : decode cX5_skipBlanks 0 = .ok (.aload_n 0, 1) := by decide +kernel
theorem dX5_skipBlanks_1 : decode cX5_skipBlanks 1 = .ok (.getfield 35, 3) := by decide +kernel
theorem dX5_skipBlanks_4 : decode cX5_skipBlanks 4 = .ok (.aload_n 0, 1) := by decide +kernel
theorem dX5_skipBlanks_5 : decode cX5_skipBlanks 5 = .ok (.getfield 22, 3) := by decide +kernel
theorem dX5_skipBlanks_8 : decode cX5_skipBlanks 8 = .ok (.if_icmp .ge 30, 3) := by decide +kernel
theorem dX5_skipBlanks_11 : decode cX5_skipBlanks 11 = .ok (.aload_n 0, 1) := by decide +kernel
theorem dX5_skipBlanks_12 : decode cX5_skipBlanks 12 = .ok (.getfield 18, 3) := by decide +kernel
theorem dX5_skipBlanks_15 : decode cX5_skipBlanks 15 = .ok (.aload_n 0, 1) := by decide +kernel
theorem dX5_skipBlanks_16 : decode cX5_skipBlanks 16 = .ok (.getfield 35, 3) := by decide +kernel
theorem dX5_skipBlanks_19 : decode cX5_skipBlanks 19 = .ok (.baload, 1) := by decide +kernel
theorem dX5_skipBlanks_20 : decode cX5_skipBlanks 20 = .ok (.bipush 32, 2) := by decide +kernel
theorem dX5_skipBlanks_22 : decode cX5_skipBlanks 22 = .ok (.if_icmp .ne 16, 3) := by decide +kernel
theorem dX5_skipBlanks_25 : decode cX5_skipBlanks 25 = .ok (.aload_n 0, 1) := by decide +kernel
theorem dX5_skipBlanks_26 : decode cX5_skipBlanks 26 = .ok (.dup, 1) := by decide +kernel
theorem dX5_skipBlanks_27 : decode cX5_skipBlanks 27 = .ok (.getfield 35, 3) := by decide +kernel
theorem dX5_skipBlanks_30 : decode cX5_skipBlanks 30 = .ok (.iconst 1, 1) := by decide +kernel
theorem dX5_skipBlanks_31 : decode cX5_skipBlanks 31 = .ok (.iadd, 1) := by decide +kernel
theorem dX5_skipBlanks_32 : decode cX5_skipBlanks 32 = .ok (.putfield 35, 3) := by decide +kernel
theorem dX5_skipBlanks_35 : decode cX5_skipBlanks 35 = .ok (.goto (-35), 3) := by decide +kernel
theorem dX5_skipBlanks_38 : decode cX5_skipBlanks 38 = .ok (.return_, 1) := by decide +kernel
theorem dX5_takeSign_0 : decode cX5_takeSign 0 = .ok (.aload_n 0, 1) := by decide +kernel
theorem dX5_takeSign_1 : decode cX5_takeSign 1 = .ok (.invokevirtual 38, 3) := by decide +kernel
theorem dX5_takeSign_4 : decode cX5_takeSign 4 = .ok (.aload_n 0, 1) := by decide +kernel
theorem dX5_takeSign_5 : decode cX5_takeSign 5 = .ok (.getfield 35, 3) := by decide +kernel
theorem dX5_takeSign_8 : decode cX5_takeSign 8 = .ok (.aload_n 0, 1) := by decide +kernel
theorem dX5_takeSign_9 : decode cX5_takeSign 9 = .ok (.getfield 22, 3) := by decide +kernel
theorem dX5_takeSign_12 : decode cX5_takeSign 12 = .ok (.if_icmp .ge 28, 3) := by decide +kernel
theorem dX5_takeSign_15 : decode cX5_takeSign 15 = .ok (.aload_n 0, 1) := by decide +kernel
theorem dX5_takeSign_16 : decode cX5_takeSign 16 = .ok (.getfield 18, 3) := by decide +kernel
theorem dX5_takeSign_19 : decode cX5_takeSign 19 = .ok (.aload_n 0, 1) := by decide +kernel
theorem dX5_takeSign_20 : decode cX5_takeSign 20 = .ok (.getfield 35, 3) := by decide +kernel
theorem dX5_takeSign_23 : decode cX5_takeSign 23 = .ok (.baload, 1) := by decide +kernel
theorem dX5_takeSign_24 : decode cX5_takeSign 24 = .ok (.iload_n 1, 1) := by decide +kernel
theorem dX5_takeSign_25 : decode cX5_takeSign 25 = .ok (.if_icmp .ne 15, 3) := by decide +kernel
theorem dX5_takeSign_28 : decode cX5_takeSign 28 = .ok (.aload_n 0, 1) := by decide +kernel
theorem dX5_takeSign_29 : decode cX5_takeSign 29 = .ok (.dup, 1) := by decide +kernel
theorem dX5_takeSign_30 : decode cX5_takeSign 30 = .ok (.getfield 35, 3) := by decide +kernel
theorem dX5_takeSign_33 : decode cX5_takeSign 33 = .ok (.iconst 1, 1) := by decide +kernel
theorem dX5_takeSign_34 : decode cX5_takeSign 34 = .ok (.iadd, 1) := by decide +kernel
theorem dX5_takeSign_35 : decode cX5_takeSign 35 = .ok (.putfield 35, 3) := by decide +kernel
theorem dX5_takeSign_38 : decode cX5_takeSign 38 = .ok (.iconst 1, 1) := by decide +kernel
theorem dX5_takeSign_39 : decode cX5_takeSign 39 = .ok (.ireturn, 1) := by decide +kernel
theorem dX5_takeSign_40 : decode cX5_takeSign 40 = .ok (.iconst 0, 1) := by decide +kernel
theorem dX5_takeSign_41 : decode cX5_takeSign 41 = .ok (.ireturn, 1) := by decide +kernel
theorem dX5_isWord_0 : decode cX5_isWord 0 = .ok (.aload_n 0, 1) := by decide +kernel
theorem dX5_isWord_1 : decode cX5_isWord 1 = .ok (.getfield 35, 3) := by decide +kernel
theorem dX5_isWord_4 : decode cX5_isWord 4 = .ok (.aload_n 1, 1) := by decide +kernel
theorem dX5_isWord_5 : decode cX5_isWord 5 = .ok (.invokevirtual 119, 3) := by decide +kernel
theorem dX5_isWord_8 : decode cX5_isWord 8 = .ok (.iadd, 1) := by decide +kernel
theorem dX5_isWord_9 : decode cX5_isWord 9 = .ok (.istore_n 2, 1) := by decide +kernel
theorem dX5_isWord_10 : decode cX5_isWord 10 = .ok (.iload_n 2, 1) := by decide +kernel
theorem dX5_isWord_11 : decode cX5_isWord 11 = .ok (.aload_n 0, 1) := by decide +kernel
theorem dX5_isWord_12 : decode cX5_isWord 12 = .ok (.getfield 22, 3) := by decide +kernel
theorem dX5_isWord_15 : decode cX5_isWord 15 = .ok (.if_icmp .gt 33, 3) := by decide +kernel
theorem dX5_isWord_18 : decode cX5_isWord 18 = .ok (.iload_n 2, 1) := by decide +kernel
theorem dX5_isWord_19 : decode cX5_isWord 19 = .ok (.aload_n 0, 1) := by decide +kernel
theorem dX5_isWord_20 : decode cX5_isWord 20 = .ok (.getfield 22, 3) := by decide +kernel
theorem dX5_isWord_23 : decode cX5_isWord 23 = .ok (.if_icmp .ge 27, 3) := by decide +kernel
theorem dX5_isWord_26 : decode cX5_isWord 26 = .ok (.aload_n 0, 1) := by decide +kernel
theorem dX5_isWord_27 : decode cX5_isWord 27 = .ok (.getfield 18, 3) := by decide +kernel
theorem dX5_isWord_30 : decode cX5_isWord 30 = .ok (.iload_n 2, 1) := by decide +kernel
theorem dX5_isWord_31 : decode cX5_isWord 31 = .ok (.baload, 1) := by decide +kernel
theorem dX5_isWord_32 : decode cX5_isWord 32 = .ok (.bipush 97, 2) := by decide +kernel
theorem dX5_isWord_34 : decode cX5_isWord 34 = .ok (.if_icmp .lt 16, 3) := by decide +kernel
theorem dX5_isWord_37 : decode cX5_isWord 37 = .ok (.aload_n 0, 1) := by decide +kernel
theorem dX5_isWord_38 : decode cX5_isWord 38 = .ok (.getfield 18, 3) := by decide +kernel
theorem dX5_isWord_41 : decode cX5_isWord 41 = .ok (.iload_n 2, 1) := by decide +kernel
theorem dX5_isWord_42 : decode cX5_isWord 42 = .ok (.baload, 1) := by decide +kernel
theorem dX5_isWord_43 : decode cX5_isWord 43 = .ok (.bipush 122, 2) := by decide +kernel
theorem dX5_isWord_45 : decode cX5_isWord 45 = .ok (.if_icmp .gt 5, 3) := by decide +kernel
theorem dX5_isWord_48 : decode cX5_isWord 48 = .ok (.iconst 0, 1) := by decide +kernel
theorem dX5_isWord_49 : decode cX5_isWord 49 = .ok (.ireturn, 1) := by decide +kernel
theorem dX5_isWord_50 : decode cX5_isWord 50 = .ok (.iconst 0, 1) := by decide +kernel
theorem dX5_isWord_51 : decode cX5_isWord 51 = .ok (.istore_n 3, 1) := by decide +kernel
theorem dX5_isWord_52 : decode cX5_isWord 52 = .ok (.iload_n 3, 1) := by decide +kernel
theorem dX5_isWord_53 : decode cX5_isWord 53 = .ok (.aload_n 1, 1) := by decide +kernel
theorem dX5_isWord_54 : decode cX5_isWord 54 = .ok (.invokevirtual 119, 3) := by decide +kernel
theorem dX5_isWord_57 : decode cX5_isWord 57 = .ok (.if_icmp .ge 30, 3) := by decide +kernel
theorem dX5_isWord_60 : decode cX5_isWord 60 = .ok (.aload_n 0, 1) := by decide +kernel
theorem dX5_isWord_61 : decode cX5_isWord 61 = .ok (.getfield 18, 3) := by decide +kernel
theorem dX5_isWord_64 : decode cX5_isWord 64 = .ok (.aload_n 0, 1) := by decide +kernel
theorem dX5_isWord_65 : decode cX5_isWord 65 = .ok (.getfield 35, 3) := by decide +kernel
theorem dX5_isWord_68 : decode cX5_isWord 68 = .ok (.iload_n 3, 1) := by decide +kernel
theorem dX5_isWord_69 : decode cX5_isWord 69 = .ok (.iadd, 1) := by decide +kernel
theorem dX5_isWord_70 : decode cX5_isWord 70 = .ok (.baload, 1) := by decide +kernel
theorem dX5_isWord_71 : decode cX5_isWord 71 = .ok (.aload_n 1, 1) := by decide +kernel
theorem dX5_isWord_72 : decode cX5_isWord 72 = .ok (.iload_n 3, 1) := by decide +kernel
theorem dX5_isWord_73 : decode cX5_isWord 73 = .ok (.invokevirtual 124, 3) := by decide +kernel
theorem dX5_isWord_76 : decode cX5_isWord 76 = .ok (.if_icmp .eq 5, 3) := by decide +kernel
theorem dX5_isWord_79 : decode cX5_isWord 79 = .ok (.iconst 0, 1) := by decide +kernel
theorem dX5_isWord_80 : decode cX5_isWord 80 = .ok (.ireturn, 1) := by decide +kernel
theorem dX5_isWord_81 : decode cX5_isWord 81 = .ok (.iinc 3 1, 3) := by decide +kernel
theorem dX5_isWord_84 : decode cX5_isWord 84 = .ok (.goto (-32), 3) := by decide +kernel
theorem dX5_isWord_87 : decode cX5_isWord 87 = .ok (.aload_n 0, 1) := by decide +kernel
theorem dX5_isWord_88 : decode cX5_isWord 88 = .ok (.iload_n 2, 1) := by decide +kernel
theorem dX5_isWord_89 : decode cX5_isWord 89 = .ok (.putfield 35, 3) := by decide +kernel
theorem dX5_isWord_92 : decode cX5_isWord 92 = .ok (.iconst 1, 1) := by decide +kernel
theorem dX5_isWord_93 : decode cX5_isWord 93 = .ok (.ireturn, 1) := by decide +kernel
theorem dX5_readNumber_0 : decode cX5_readNumber 0 = .ok (.aload_n 0, 1) := by decide +kernel
theorem dX5_readNumber_1 : decode cX5_readNumber 1 = .ok (.invokevirtual 38, 3) := by decide +kernel
theorem dX5_readNumber_4 : decode cX5_readNumber 4 = .ok (.aload_n 0, 1) := by decide +kernel
theorem dX5_readNumber_5 : decode cX5_readNumber 5 = .ok (.aload_n 0, 1) := by decide +kernel
theorem dX5_readNumber_6 : decode cX5_readNumber 6 = .ok (.getfield 35, 3) := by decide +kernel
theorem dX5_readNumber_9 : decode cX5_readNumber 9 = .ok (.putfield 45, 3) := by decide +kernel
theorem dX5_readNumber_12 : decode cX5_readNumber 12 = .ok (.aload_n 0, 1) := by decide +kernel
theorem dX5_readNumber_13 : decode cX5_readNumber 13 = .ok (.iconst 0, 1) := by decide +kernel
theorem dX5_readNumber_14 : decode cX5_readNumber 14 = .ok (.putfield 87, 3) := by decide +kernel
theorem dX5_readNumber_17 : decode cX5_readNumber 17 = .ok (.aload_n 0, 1) := by decide +kernel
theorem dX5_readNumber_18 : decode cX5_readNumber 18 = .ok (.getfield 35, 3) := by decide +kernel
theorem dX5_readNumber_21 : decode cX5_readNumber 21 = .ok (.aload_n 0, 1) := by decide +kernel
theorem dX5_readNumber_22 : decode cX5_readNumber 22 = .ok (.getfield 22, 3) := by decide +kernel
theorem dX5_readNumber_25 : decode cX5_readNumber 25 = .ok (.if_icmp .ge 81, 3) := by decide +kernel
theorem dX5_readNumber_28 : decode cX5_readNumber 28 = .ok (.aload_n 0, 1) := by decide +kernel
theorem dX5_readNumber_29 : decode cX5_readNumber 29 = .ok (.getfield 18, 3) := by decide +kernel
theorem dX5_readNumber_32 : decode cX5_readNumber 32 = .ok (.aload_n 0, 1) := by decide +kernel
theorem dX5_readNumber_33 : decode cX5_readNumber 33 = .ok (.getfield 35, 3) := by decide +kernel
theorem dX5_readNumber_36 : decode cX5_readNumber 36 = .ok (.baload, 1) := by decide +kernel
theorem dX5_readNumber_37 : decode cX5_readNumber 37 = .ok (.bipush 48, 2) := by decide +kernel
theorem dX5_readNumber_39 : decode cX5_readNumber 39 = .ok (.if_icmp .lt 67, 3) := by decide +kernel
theorem dX5_readNumber_42 : decode cX5_readNumber 42 = .ok (.aload_n 0, 1) := by decide +kernel
theorem dX5_readNumber_43 : decode cX5_readNumber 43 = .ok (.getfield 18, 3) := by decide +kernel
theorem dX5_readNumber_46 : decode cX5_readNumber 46 = .ok (.aload_n 0, 1) := by decide +kernel
theorem dX5_readNumber_47 : decode cX5_readNumber 47 = .ok (.getfield 35, 3) := by decide +kernel
theorem dX5_readNumber_50 : decode cX5_readNumber 50 = .ok (.baload, 1) := by decide +kernel
theorem dX5_readNumber_51 : decode cX5_readNumber 51 = .ok (.bipush 57, 2) := by decide +kernel
theorem dX5_readNumber_53 : decode cX5_readNumber 53 = .ok (.if_icmp .gt 53, 3) := by decide +kernel
theorem dX5_readNumber_56 : decode cX5_readNumber 56 = .ok (.aload_n 0, 1) := by decide +kernel
theorem dX5_readNumber_57 : decode cX5_readNumber 57 = .ok (.getfield 35, 3) := by decide +kernel
theorem dX5_readNumber_60 : decode cX5_readNumber 60 = .ok (.aload_n 0, 1) := by decide +kernel
theorem dX5_readNumber_61 : decode cX5_readNumber 61 = .ok (.getfield 45, 3) := by decide +kernel
theorem dX5_readNumber_64 : decode cX5_readNumber 64 = .ok (.isub, 1) := by decide +kernel
theorem dX5_readNumber_65 : decode cX5_readNumber 65 = .ok (.iconst 3, 1) := by decide +kernel
theorem dX5_readNumber_66 : decode cX5_readNumber 66 = .ok (.if_icmp .ge 27, 3) := by decide +kernel
theorem dX5_readNumber_69 : decode cX5_readNumber 69 = .ok (.aload_n 0, 1) := by decide +kernel
theorem dX5_readNumber_70 : decode cX5_readNumber 70 = .ok (.aload_n 0, 1) := by decide +kernel
theorem dX5_readNumber_71 : decode cX5_readNumber 71 = .ok (.getfield 87, 3) := by decide +kernel
theorem dX5_readNumber_74 : decode cX5_readNumber 74 = .ok (.bipush 10, 2) := by decide +kernel
theorem dX5_readNumber_76 : decode cX5_readNumber 76 = .ok (.imul, 1) := by decide +kernel
theorem dX5_readNumber_77 : decode cX5_readNumber 77 = .ok (.aload_n 0, 1) := by decide +kernel
theorem dX5_readNumber_78 : decode cX5_readNumber 78 = .ok (.getfield 18, 3) := by decide +kernel
theorem dX5_readNumber_81 : decode cX5_readNumber 81 = .ok (.aload_n 0, 1) := by decide +kernel
theorem dX5_readNumber_82 : decode cX5_readNumber 82 = .ok (.getfield 35, 3) := by decide +kernel
theorem dX5_readNumber_85 : decode cX5_readNumber 85 = .ok (.baload, 1) := by decide +kernel
theorem dX5_readNumber_86 : decode cX5_readNumber 86 = .ok (.iadd, 1) := by decide +kernel
theorem dX5_readNumber_87 : decode cX5_readNumber 87 = .ok (.bipush 48, 2) := by decide +kernel
theorem dX5_readNumber_89 : decode cX5_readNumber 89 = .ok (.isub, 1) := by decide +kernel
theorem dX5_readNumber_90 : decode cX5_readNumber 90 = .ok (.putfield 87, 3) := by decide +kernel
theorem dX5_readNumber_93 : decode cX5_readNumber 93 = .ok (.aload_n 0, 1) := by decide +kernel
theorem dX5_readNumber_94 : decode cX5_readNumber 94 = .ok (.dup, 1) := by decide +kernel
theorem dX5_readNumber_95 : decode cX5_readNumber 95 = .ok (.getfield 35, 3) := by decide +kernel
theorem dX5_readNumber_98 : decode cX5_readNumber 98 = .ok (.iconst 1, 1) := by decide +kernel
theorem dX5_readNumber_99 : decode cX5_readNumber 99 = .ok (.iadd, 1) := by decide +kernel
theorem dX5_readNumber_100 : decode cX5_readNumber 100 = .ok (.putfield 35, 3) := by decide +kernel
theorem dX5_readNumber_103 : decode cX5_readNumber 103 = .ok (.goto (-86), 3) := by decide +kernel
theorem dX5_readNumber_106 : decode cX5_readNumber 106 = .ok (.aload_n 0, 1) := by decide +kernel
theorem dX5_readNumber_107 : decode cX5_readNumber 107 = .ok (.getfield 35, 3) := by decide +kernel
theorem dX5_readNumber_110 : decode cX5_readNumber 110 = .ok (.aload_n 0, 1) := by decide +kernel
theorem dX5_readNumber_111 : decode cX5_readNumber 111 = .ok (.getfield 45, 3) := by decide +kernel
theorem dX5_readNumber_114 : decode cX5_readNumber 114 = .ok (.if_icmp .ne 13, 3) := by decide +kernel
theorem dX5_readNumber_117 : decode cX5_readNumber 117 = .ok (.aload_n 0, 1) := by decide +kernel
theorem dX5_readNumber_118 : decode cX5_readNumber 118 = .ok (.iconst 1, 1) := by decide +kernel
theorem dX5_readNumber_119 : decode cX5_readNumber 119 = .ok (.aload_n 0, 1) := by decide +kernel
theorem dX5_readNumber_120 : decode cX5_readNumber 120 = .ok (.getfield 35, 3) := by decide +kernel
theorem dX5_readNumber_123 : decode cX5_readNumber 123 = .ok (.invokevirtual 60, 3) := by decide +kernel
theorem dX5_readNumber_126 : decode cX5_readNumber 126 = .ok (.ireturn, 1) := by decide +kernel
theorem dX5_readNumber_127 : decode cX5_readNumber 127 = .ok (.aload_n 0, 1) := by decide +kernel
theorem dX5_readNumber_128 : decode cX5_readNumber 128 = .ok (.getfield 35, 3) := by decide +kernel
theorem dX5_readNumber_131 : decode cX5_readNumber 131 = .ok (.aload_n 0, 1) := by decide +kernel
theorem dX5_readNumber_132 : decode cX5_readNumber 132 = .ok (.getfield 45, 3) := by decide +kernel
theorem dX5_readNumber_135 : decode cX5_readNumber 135 = .ok (.isub, 1) := by decide +kernel
theorem dX5_readNumber_136 : decode cX5_readNumber 136 = .ok (.iconst 3, 1) := by decide +kernel
theorem dX5_readNumber_137 : decode cX5_readNumber 137 = .ok (.if_icmp .gt 19, 3) := by decide +kernel
theorem dX5_readNumber_140 : decode cX5_readNumber 140 = .ok (.aload_n 0, 1) := by decide +kernel
theorem dX5_readNumber_141 : decode cX5_readNumber 141 = .ok (.getfield 87, 3) := by decide +kernel
theorem dX5_readNumber_144 : decode cX5_readNumber 144 = .ok (.iload_n 1, 1) := by decide +kernel
theorem dX5_readNumber_145 : decode cX5_readNumber 145 = .ok (.if_icmp .lt 11, 3) := by decide +kernel
theorem dX5_readNumber_148 : decode cX5_readNumber 148 = .ok (.aload_n 0, 1) := by decide +kernel
theorem dX5_readNumber_149 : decode cX5_readNumber 149 = .ok (.getfield 87, 3) := by decide +kernel
theorem dX5_readNumber_152 : decode cX5_readNumber 152 = .ok (.iload_n 2, 1) := by decide +kernel
theorem dX5_readNumber_153 : decode cX5_readNumber 153 = .ok (.if_icmp .le 13, 3) := by decide +kernel
theorem dX5_readNumber_156 : decode cX5_readNumber 156 = .ok (.aload_n 0, 1) := by decide +kernel
theorem dX5_readNumber_157 : decode cX5_readNumber 157 = .ok (.iconst 2, 1) := by decide +kernel
theorem dX5_readNumber_158 : decode cX5_readNumber 158 = .ok (.aload_n 0, 1) := by decide +kernel
theorem dX5_readNumber_159 : decode cX5_readNumber 159 = .ok (.getfield 45, 3) := by decide +kernel
theorem dX5_readNumber_162 : decode cX5_readNumber 162 = .ok (.invokevirtual 60, 3) := by decide +kernel
theorem dX5_readNumber_165 : decode cX5_readNumber 165 = .ok (.ireturn, 1) := by decide +kernel
theorem dX5_readNumber_166 : decode cX5_readNumber 166 = .ok (.iconst 1, 1) := by decide +kernel
theorem dX5_readNumber_167 : decode cX5_readNumber 167 = .ok (.ireturn, 1) := by decide +kernel
theorem dX6_init_0 : decode cX6_init 0 = .ok (.aload_n 0, 1) := by decide +kernel
theorem dX6_init_1 : decode cX6_init 1 = .ok (.invokespecial 3, 3) := by decide +kernel
theorem dX6_init_4 : decode cX6_init 4 = .ok (.aload_n 0, 1) := by decide +kernel
theorem dX6_init_5 : decode cX6_init 5 = .ok (.bipush 6, 2) := by decide +kernel
theorem dX6_init_7 : decode cX6_init 7 = .ok (.newarray .int, 2) := by decide +kernel
theorem dX6_init_9 : decode cX6_init 9 = .ok (.putfield 9, 3) := by decide +kernel
theorem dX6_init_12 : decode cX6_init 12 = .ok (.aload_n 0, 1) := by decide +kernel
theorem dX6_init_13 : decode cX6_init 13 = .ok (.bipush 6, 2) := by decide +kernel
theorem dX6_init_15 : decode cX6_init 15 = .ok (.newarray .int, 2) := by decide +kernel
theorem dX6_init_17 : decode cX6_init 17 = .ok (.putfield 15, 3) := by decide +kernel
theorem dX6_init_20 : decode cX6_init 20 = .ok (.aload_n 0, 1) := by decide +kernel
theorem dX6_init_21 : decode cX6_init 21 = .ok (.bipush 6, 2) := by decide +kernel
theorem dX6_init_23 : decode cX6_init 23 = .ok (.newarray .int, 2) := by decide +kernel
theorem dX6_init_25 : decode cX6_init 25 = .ok (.putfield 18, 3) := by decide +kernel
theorem dX6_init_28 : decode cX6_init 28 = .ok (.aload_n 0, 1) := by decide +kernel
theorem dX6_init_29 : decode cX6_init 29 = .ok (.bipush 6, 2) := by decide +kernel
theorem dX6_init_31 : decode cX6_init 31 = .ok (.newarray .int, 2) := by decide +kernel
theorem dX6_init_33 : decode cX6_init 33 = .ok (.putfield 21, 3) := by decide +kernel
theorem dX6_init_36 : decode cX6_init 36 = .ok (.aload_n 0, 1) := by decide +kernel
theorem dX6_init_37 : decode cX6_init 37 = .ok (.bipush 6, 2) := by decide +kernel
theorem dX6_init_39 : decode cX6_init 39 = .ok (.newarray .int, 2) := by decide +kernel
theorem dX6_init_41 : decode cX6_init 41 = .ok (.putfield 24, 3) := by decide +kernel
theorem dX6_init_44 : decode cX6_init 44 = .ok (.iconst 0, 1) := by decide +kernel
theorem dX6_init_45 : decode cX6_init 45 = .ok (.istore_n 1, 1) := by decide +kernel
theorem dX6_init_46 : decode cX6_init 46 = .ok (.iload_n 1, 1) := by decide +kernel
theorem dX6_init_47 : decode cX6_init 47 = .ok (.bipush 6, 2) := by decide +kernel
theorem dX6_init_49 : decode cX6_init 49 = .ok (.if_icmp .ge 23, 3) := by decide +kernel
theorem dX6_init_52 : decode cX6_init 52 = .ok (.aload_n 0, 1) := by decide +kernel
theorem dX6_init_53 : decode cX6_init 53 = .ok (.getfield 9, 3) := by decide +kernel
theorem dX6_init_56 : decode cX6_init 56 = .ok (.iload_n 1, 1) := by decide +kernel
theorem dX6_init_57 : decode cX6_init 57 = .ok (.iconst (-1), 1) := by decide +kernel
theorem dX6_init_58 : decode cX6_init 58 = .ok (.iastore, 1) := by decide +kernel
theorem dX6_init_59 : decode cX6_init 59 = .ok (.aload_n 0, 1) := by decide +kernel
theorem dX6_init_60 : decode cX6_init 60 = .ok (.getfield 15, 3) := by decide +kernel
theorem dX6_init_63 : decode cX6_init 63 = .ok (.iload_n 1, 1) := by decide +kernel
theorem dX6_init_64 : decode cX6_init 64 = .ok (.iconst (-1), 1) := by decide +kernel
theorem dX6_init_65 : decode cX6_init 65 = .ok (.iastore, 1) := by decide +kernel
theorem dX6_init_66 : decode cX6_init 66 = .ok (.iinc 1 1, 3) := by decide +kernel
theorem dX6_init_69 : decode cX6_init 69 = .ok (.goto (-23), 3) := by decide +kernel
theorem dX6_init_72 : decode cX6_init 72 = .ok (.return_, 1) := by decide +kernel
theorem dX6_begin_0 : decode cX6_begin 0 = .ok (.aload_n 0, 1) := by decide +kernel
theorem dX6_begin_1 : decode cX6_begin 1 = .ok (.invokevirtual 27, 3) := by decide +kernel
theorem dX6_begin_4 : decode cX6_begin 4 = .ok (.aload_n 1, 1) := by decide +kernel
theorem dX6_begin_5 : decode cX6_begin 5 = .ok (.getfield 30, 3) := by decide +kernel
theorem dX6_begin_8 : decode cX6_begin 8 = .ok (.aload_n 0, 1) := by decide +kernel
theorem dX6_begin_9 : decode cX6_begin 9 = .ok (.getfield 21, 3) := by decide +kernel
theorem dX6_begin_12 : decode cX6_begin 12 = .ok (.invokestatic 35, 3) := by decide +kernel
theorem dX6_begin_15 : decode cX6_begin 15 = .ok (.aload_n 1, 1) := by decide +kernel
theorem dX6_begin_16 : decode cX6_begin 16 = .ok (.getfield 39, 3) := by decide +kernel
theorem dX6_begin_19 : decode cX6_begin 19 = .ok (.aload_n 0, 1) := by decide +kernel
theorem dX6_begin_20 : decode cX6_begin 20 = .ok (.getfield 24, 3) := by decide +kernel
theorem dX6_begin_23 : decode cX6_begin 23 = .ok (.invokestatic 35, 3) := by decide +kernel
theorem dX6_begin_26 : decode cX6_begin 26 = .ok (.return_, 1) := by decide +kernel
theorem dX6_copyFrom_0 : decode cX6_copyFrom 0 = .ok (.aload_n 1, 1) := by decide +kernel
theorem dX6_copyFrom_1 : decode cX6_copyFrom 1 = .ok (.getfield 9, 3) := by decide +kernel
theorem dX6_copyFrom_4 : decode cX6_copyFrom 4 = .ok (.aload_n 0, 1) := by decide +kernel
theorem dX6_copyFrom_5 : decode cX6_copyFrom 5 = .ok (.getfield 9, 3) := by decide +kernel
theorem dX6_copyFrom_8 : decode cX6_copyFrom 8 = .ok (.invokestatic 35, 3) := by decide +kernel
theorem dX6_copyFrom_11 : decode cX6_copyFrom 11 = .ok (.aload_n 1, 1) := by decide +kernel
theorem dX6_copyFrom_12 : decode cX6_copyFrom 12 = .ok (.getfield 15, 3) := by decide +kernel
theorem dX6_copyFrom_15 : decode cX6_copyFrom 15 = .ok (.aload_n 0, 1) := by decide +kernel
theorem dX6_copyFrom_16 : decode cX6_copyFrom 16 = .ok (.getfield 15, 3) := by decide +kernel
theorem dX6_copyFrom_19 : decode cX6_copyFrom 19 = .ok (.invokestatic 35, 3) := by decide +kernel
theorem dX6_copyFrom_22 : decode cX6_copyFrom 22 = .ok (.aload_n 1, 1) := by decide +kernel
theorem dX6_copyFrom_23 : decode cX6_copyFrom 23 = .ok (.getfield 18, 3) := by decide +kernel
theorem dX6_copyFrom_26 : decode cX6_copyFrom 26 = .ok (.aload_n 0, 1) := by decide +kernel
theorem dX6_copyFrom_27 : decode cX6_copyFrom 27 = .ok (.getfield 18, 3) := by decide +kernel
theorem dX6_copyFrom_30 : decode cX6_copyFrom 30 = .ok (.invokestatic 35, 3) := by decide +kernel
theorem dX6_copyFrom_33 : decode cX6_copyFrom 33 = .ok (.aload_n 1, 1) := by decide +kernel
theorem dX6_copyFrom_34 : decode cX6_copyFrom 34 = .ok (.getfield 21, 3) := by decide +kernel
theorem dX6_copyFrom_37 : decode cX6_copyFrom 37 = .ok (.aload_n 0, 1) := by decide +kernel
theorem dX6_copyFrom_38 : decode cX6_copyFrom 38 = .ok (.getfield 21, 3) := by decide +kernel
theorem dX6_copyFrom_41 : decode cX6_copyFrom 41 = .ok (.invokestatic 35, 3) := by decide +kernel
theorem dX6_copyFrom_44 : decode cX6_copyFrom 44 = .ok (.aload_n 1, 1) := by decide +kernel
theorem dX6_copyFrom_45 : decode cX6_copyFrom 45 = .ok (.getfield 24, 3) := by decide +kernel
theorem dX6_copyFrom_48 : decode cX6_copyFrom 48 = .ok (.aload_n 0, 1) := by decide +kernel
theorem dX6_copyFrom_49 : decode cX6_copyFrom 49 = .ok (.getfield 24, 3) := by decide +kernel
theorem dX6_copyFrom_52 : decode cX6_copyFrom 52 = .ok (.invokestatic 35, 3) := by decide +kernel
theorem dX6_copyFrom_55 : decode cX6_copyFrom 55 = .ok (.aload_n 0, 1) := by decide +kernel
theorem dX6_copyFrom_56 : decode cX6_copyFrom 56 = .ok (.aload_n 1, 1) := by decide +kernel
theorem dX6_copyFrom_57 : decode cX6_copyFrom 57 = .ok (.getfield 42, 3) := by decide +kernel
theorem dX6_copyFrom_60 : decode cX6_copyFrom 60 = .ok (.putfield 42, 3) := by decide +kernel
theorem dX6_copyFrom_63 : decode cX6_copyFrom 63 = .ok (.aload_n 0, 1) := by decide +kernel
theorem dX6_copyFrom_64 : decode cX6_copyFrom 64 = .ok (.aload_n 1, 1) := by decide +kernel
theorem dX6_copyFrom_65 : decode cX6_copyFrom 65 = .ok (.getfield 46, 3) := by decide +kernel
theorem dX6_copyFrom_68 : decode cX6_copyFrom 68 = .ok (.putfield 46, 3) := by decide +kernel
theorem dX6_copyFrom_71 : decode cX6_copyFrom 71 = .ok (.return_, 1) := by decide +kernel
theorem dX6_standAt_0 : decode cX6_standAt 0 = .ok (.aload_n 0, 1) := by decide +kernel
theorem dX6_standAt_1 : decode cX6_standAt 1 = .ok (.getfield 9, 3) := by decide +kernel
theorem dX6_standAt_4 : decode cX6_standAt 4 = .ok (.iload_n 1, 1) := by decide +kernel
theorem dX6_standAt_5 : decode cX6_standAt 5 = .ok (.iload_n 2, 1) := by decide +kernel
theorem dX6_standAt_6 : decode cX6_standAt 6 = .ok (.iastore, 1) := by decide +kernel
theorem dX6_standAt_7 : decode cX6_standAt 7 = .ok (.aload_n 0, 1) := by decide +kernel
theorem dX6_standAt_8 : decode cX6_standAt 8 = .ok (.getfield 15, 3) := by decide +kernel
theorem dX6_standAt_11 : decode cX6_standAt 11 = .ok (.iload_n 1, 1) := by decide +kernel
theorem dX6_standAt_12 : decode cX6_standAt 12 = .ok (.iload_n 3, 1) := by decide +kernel
theorem dX6_standAt_13 : decode cX6_standAt 13 = .ok (.iastore, 1) := by decide +kernel
theorem dX6_standAt_14 : decode cX6_standAt 14 = .ok (.aload_n 0, 1) := by decide +kernel
theorem dX6_standAt_15 : decode cX6_standAt 15 = .ok (.getfield 18, 3) := by decide +kernel
theorem dX6_standAt_18 : decode cX6_standAt 18 = .ok (.iload_n 1, 1) := by decide +kernel
theorem dX6_standAt_19 : decode cX6_standAt 19 = .ok (.iconst 0, 1) := by decide +kernel
theorem dX6_standAt_20 : decode cX6_standAt 20 = .ok (.iastore, 1) := by decide +kernel
theorem dX6_standAt_21 : decode cX6_standAt 21 = .ok (.return_, 1) := by decide +kernel
theorem dX6_goOut_0 : decode cX6_goOut 0 = .ok (.aload_n 0, 1) := by decide +kernel
theorem dX6_goOut_1 : decode cX6_goOut 1 = .ok (.iload_n 1, 1) := by decide +kernel
theorem dX6_goOut_2 : decode cX6_goOut 2 = .ok (.iconst (-1), 1) := by decide +kernel
theorem dX6_goOut_3 : decode cX6_goOut 3 = .ok (.iconst (-1), 1) := by decide +kernel
theorem dX6_goOut_4 : decode cX6_goOut 4 = .ok (.invokevirtual 49, 3) := by decide +kernel
theorem dX6_goOut_7 : decode cX6_goOut 7 = .ok (.return_, 1) := by decide +kernel
theorem dX6_sendAllOut_0 : decode cX6_sendAllOut 0 = .ok (.iconst 0, 1) := by decide +kernel
theorem dX6_sendAllOut_1 : decode cX6_sendAllOut 1 = .ok (.istore_n 1, 1) := by decide +kernel
theorem dX6_sendAllOut_2 : decode cX6_sendAllOut 2 = .ok (.iload_n 1, 1) := by decide +kernel
theorem dX6_sendAllOut_3 : decode cX6_sendAllOut 3 = .ok (.bipush 6, 2) := by decide +kernel
theorem dX6_sendAllOut_5 : decode cX6_sendAllOut 5 = .ok (.if_icmp .ge 14, 3) := by decide +kernel
theorem dX6_sendAllOut_8 : decode cX6_sendAllOut 8 = .ok (.aload_n 0, 1) := by decide +kernel
theorem dX6_sendAllOut_9 : decode cX6_sendAllOut 9 = .ok (.iload_n 1, 1) := by decide +kernel
theorem dX6_sendAllOut_10 : decode cX6_sendAllOut 10 = .ok (.invokevirtual 53, 3) := by decide +kernel
theorem dX6_sendAllOut_13 : decode cX6_sendAllOut 13 = .ok (.iinc 1 1, 3) := by decide +kernel
theorem dX6_sendAllOut_16 : decode cX6_sendAllOut 16 = .ok (.goto (-14), 3) := by decide +kernel
theorem dX6_sendAllOut_19 : decode cX6_sendAllOut 19 = .ok (.return_, 1) := by decide +kernel
theorem dX6_whoIsAt_0 : decode cX6_whoIsAt 0 = .ok (.iconst 0, 1) := by decide +kernel
theorem dX6_whoIsAt_1 : decode cX6_whoIsAt 1 = .ok (.istore_n 3, 1) := by decide +kernel
theorem dX6_whoIsAt_2 : decode cX6_whoIsAt 2 = .ok (.iload_n 3, 1) := by decide +kernel
theorem dX6_whoIsAt_3 : decode cX6_whoIsAt 3 = .ok (.bipush 6, 2) := by decide +kernel
theorem dX6_whoIsAt_5 : decode cX6_whoIsAt 5 = .ok (.if_icmp .ge 31, 3) := by decide +kernel
theorem dX6_whoIsAt_8 : decode cX6_whoIsAt 8 = .ok (.aload_n 0, 1) := by decide +kernel
theorem dX6_whoIsAt_9 : decode cX6_whoIsAt 9 = .ok (.getfield 9, 3) := by decide +kernel
theorem dX6_whoIsAt_12 : decode cX6_whoIsAt 12 = .ok (.iload_n 3, 1) := by decide +kernel
theorem dX6_whoIsAt_13 : decode cX6_whoIsAt 13 = .ok (.iaload, 1) := by decide +kernel
theorem dX6_whoIsAt_14 : decode cX6_whoIsAt 14 = .ok (.iload_n 1, 1) := by decide +kernel
theorem dX6_whoIsAt_15 : decode cX6_whoIsAt 15 = .ok (.if_icmp .ne 15, 3) := by decide +kernel
theorem dX6_whoIsAt_18 : decode cX6_whoIsAt 18 = .ok (.aload_n 0, 1) := by decide +kernel
theorem dX6_whoIsAt_19 : decode cX6_whoIsAt 19 = .ok (.getfield 15, 3) := by decide +kernel
theorem dX6_whoIsAt_22 : decode cX6_whoIsAt 22 = .ok (.iload_n 3, 1) := by decide +kernel
theorem dX6_whoIsAt_23 : decode cX6_whoIsAt 23 = .ok (.iaload, 1) := by decide +kernel
theorem dX6_whoIsAt_24 : decode cX6_whoIsAt 24 = .ok (.iload_n 2, 1) := by decide +kernel
theorem dX6_whoIsAt_25 : decode cX6_whoIsAt 25 = .ok (.if_icmp .ne 5, 3) := by decide +kernel
theorem dX6_whoIsAt_28 : decode cX6_whoIsAt 28 = .ok (.iload_n 3, 1) := by decide +kernel
theorem dX6_whoIsAt_29 : decode cX6_whoIsAt 29 = .ok (.ireturn, 1) := by decide +kernel
theorem dX6_whoIsAt_30 : decode cX6_whoIsAt 30 = .ok (.iinc 3 1, 3) := by decide +kernel
theorem dX6_whoIsAt_33 : decode cX6_whoIsAt 33 = .ok (.goto (-31), 3) := by decide +kernel
theorem dX6_whoIsAt_36 : decode cX6_whoIsAt 36 = .ok (.iconst (-1), 1) := by decide +kernel
theorem dX6_whoIsAt_37 : decode cX6_whoIsAt 37 = .ok (.ireturn, 1) := by decide +kernel
theorem dX6_whoIsIn_0 : decode cX6_whoIsIn 0 = .ok (.iconst 0, 1) := by decide +kernel
theorem dX6_whoIsIn_1 : decode cX6_whoIsIn 1 = .ok (.istore_n 2, 1) := by decide +kernel
theorem dX6_whoIsIn_2 : decode cX6_whoIsIn 2 = .ok (.iconst 0, 1) := by decide +kernel
theorem dX6_whoIsIn_3 : decode cX6_whoIsIn 3 = .ok (.istore_n 3, 1) := by decide +kernel
theorem dX6_whoIsIn_4 : decode cX6_whoIsIn 4 = .ok (.iload_n 3, 1) := by decide +kernel
theorem dX6_whoIsIn_5 : decode cX6_whoIsIn 5 = .ok (.bipush 6, 2) := by decide +kernel
theorem dX6_whoIsIn_7 : decode cX6_whoIsIn 7 = .ok (.if_icmp .ge 25, 3) := by decide +kernel
theorem dX6_whoIsIn_10 : decode cX6_whoIsIn 10 = .ok (.aload_n 0, 1) := by decide +kernel
theorem dX6_whoIsIn_11 : decode cX6_whoIsIn 11 = .ok (.getfield 9, 3) := by decide +kernel
theorem dX6_whoIsIn_14 : decode cX6_whoIsIn 14 = .ok (.iload_n 3, 1) := by decide +kernel
theorem dX6_whoIsIn_15 : decode cX6_whoIsIn 15 = .ok (.iaload, 1) := by decide +kernel
theorem dX6_whoIsIn_16 : decode cX6_whoIsIn 16 = .ok (.iload_n 1, 1) := by decide +kernel
theorem dX6_whoIsIn_17 : decode cX6_whoIsIn 17 = .ok (.if_icmp .ne 9, 3) := by decide +kernel
theorem dX6_whoIsIn_20 : decode cX6_whoIsIn 20 = .ok (.iload_n 2, 1) := by decide +kernel
theorem dX6_whoIsIn_21 : decode cX6_whoIsIn 21 = .ok (.iconst 1, 1) := by decide +kernel
theorem dX6_whoIsIn_22 : decode cX6_whoIsIn 22 = .ok (.iload_n 3, 1) := by decide +kernel
theorem dX6_whoIsIn_23 : decode cX6_whoIsIn 23 = .ok (.ishl, 1) := by decide +kernel
theorem dX6_whoIsIn_24 : decode cX6_whoIsIn 24 = .ok (.ior, 1) := by decide +kernel
theorem dX6_whoIsIn_25 : decode cX6_whoIsIn 25 = .ok (.istore_n 2, 1) := by decide +kernel
theorem dX6_whoIsIn_26 : decode cX6_whoIsIn 26 = .ok (.iinc 3 1, 3) := by decide +kernel
theorem dX6_whoIsIn_29 : decode cX6_whoIsIn 29 = .ok (.goto (-25), 3) := by decide +kernel
theorem dX6_whoIsIn_32 : decode cX6_whoIsIn 32 = .ok (.iload_n 2, 1) := by decide +kernel
theorem dX6_whoIsIn_33 : decode cX6_whoIsIn 33 = .ok (.ireturn, 1) := by decide +kernel
theorem dX6_whoIsOlderIn_0 : decode cX6_whoIsOlderIn 0 = .ok (.iconst 0, 1) := by decide +kernel
theorem dX6_whoIsOlderIn_1 : decode cX6_whoIsOlderIn 1 = .ok (.istore_n 3, 1) := by decide +kernel
theorem dX6_whoIsOlderIn_2 : decode cX6_whoIsOlderIn 2 = .ok (.iconst 0, 1) := by decide +kernel
theorem dX6_whoIsOlderIn_3 : decode cX6_whoIsOlderIn 3 = .ok (.istore 4, 2) := by decide +kernel
theorem dX6_whoIsOlderIn_5 : decode cX6_whoIsOlderIn 5 = .ok (.iload 4, 2) := by decide +kernel
theorem dX6_whoIsOlderIn_7 : decode cX6_whoIsOlderIn 7 = .ok (.bipush 6, 2) := by decide +kernel
theorem dX6_whoIsOlderIn_9 : decode cX6_whoIsOlderIn 9 = .ok (.if_icmp .ge 38, 3) := by decide +kernel
theorem dX6_whoIsOlderIn_12 : decode cX6_whoIsOlderIn 12 = .ok (.aload_n 0, 1) := by decide +kernel
theorem dX6_whoIsOlderIn_13 : decode cX6_whoIsOlderIn 13 = .ok (.getfield 9, 3) := by decide +kernel
theorem dX6_whoIsOlderIn_16 : decode cX6_whoIsOlderIn 16 = .ok (.iload 4, 2) := by decide +kernel
theorem dX6_whoIsOlderIn_18 : decode cX6_whoIsOlderIn 18 = .ok (.iaload, 1) := by decide +kernel
theorem dX6_whoIsOlderIn_19 : decode cX6_whoIsOlderIn 19 = .ok (.iload_n 1, 1) := by decide +kernel
theorem dX6_whoIsOlderIn_20 : decode cX6_whoIsOlderIn 20 = .ok (.if_icmp .ne 21, 3) := by decide +kernel
theorem dX6_whoIsOlderIn_23 : decode cX6_whoIsOlderIn 23 = .ok (.aload_n 0, 1) := by decide +kernel
theorem dX6_whoIsOlderIn_24 : decode cX6_whoIsOlderIn 24 = .ok (.getfield 21, 3) := by decide +kernel
theorem dX6_whoIsOlderIn_27 : decode cX6_whoIsOlderIn 27 = .ok (.iload 4, 2) := by decide +kernel
theorem dX6_whoIsOlderIn_29 : decode cX6_whoIsOlderIn 29 = .ok (.iaload, 1) := by decide +kernel
theorem dX6_whoIsOlderIn_30 : decode cX6_whoIsOlderIn 30 = .ok (.iload_n 2, 1) := by decide +kernel
theorem dX6_whoIsOlderIn_31 : decode cX6_whoIsOlderIn 31 = .ok (.if_icmp .le 10, 3) := by decide +kernel
theorem dX6_whoIsOlderIn_34 : decode cX6_whoIsOlderIn 34 = .ok (.iload_n 3, 1) := by decide +kernel
theorem dX6_whoIsOlderIn_35 : decode cX6_whoIsOlderIn 35 = .ok (.iconst 1, 1) := by decide +kernel
theorem dX6_whoIsOlderIn_36 : decode cX6_whoIsOlderIn 36 = .ok (.iload 4, 2) := by decide +kernel
theorem dX6_whoIsOlderIn_38 : decode cX6_whoIsOlderIn 38 = .ok (.ishl, 1) := by decide +kernel
theorem dX6_whoIsOlderIn_39 : decode cX6_whoIsOlderIn 39 = .ok (.ior, 1) := by decide +kernel
theorem dX6_whoIsOlderIn_40 : decode cX6_whoIsOlderIn 40 = .ok (.istore_n 3, 1) := by decide +kernel
theorem dX6_whoIsOlderIn_41 : decode cX6_whoIsOlderIn 41 = .ok (.iinc 4 1, 3) := by decide +kernel
theorem dX6_whoIsOlderIn_44 : decode cX6_whoIsOlderIn 44 = .ok (.goto (-39), 3) := by decide +kernel
theorem dX6_whoIsOlderIn_47 : decode cX6_whoIsOlderIn 47 = .ok (.iload_n 3, 1) := by decide +kernel
theorem dX6_whoIsOlderIn_48 : decode cX6_whoIsOlderIn 48 = .ok (.ireturn, 1) := by decide +kernel
theorem dX6_somewhere_0 : decode cX6_somewhere 0 = .ok (.bipush 63, 2) := by decide +kernel
theorem dX6_somewhere_2 : decode cX6_somewhere 2 = .ok (.aload_n 0, 1) := by decide +kernel
theorem dX6_somewhere_3 : decode cX6_somewhere 3 = .ok (.iconst (-1), 1) := by decide +kernel
theorem dX6_somewhere_4 : decode cX6_somewhere 4 = .ok (.invokevirtual 57, 3) := by decide +kernel
theorem dX6_somewhere_7 : decode cX6_somewhere 7 = .ok (.iconst (-1), 1) := by decide +kernel
theorem dX6_somewhere_8 : decode cX6_somewhere 8 = .ok (.ixor, 1) := by decide +kernel
theorem dX6_somewhere_9 : decode cX6_somewhere 9 = .ok (.iand, 1) := by decide +kernel
theorem dX6_somewhere_10 : decode cX6_somewhere 10 = .ok (.ireturn, 1) := by decide +kernel
theorem dX6_canStandAt_0 : decode cX6_canStandAt 0 = .ok (.aload_n 0, 1) := by decide +kernel
theorem dX6_canStandAt_1 : decode cX6_canStandAt 1 = .ok (.getfield 9, 3) := by decide +kernel
theorem dX6_canStandAt_4 : decode cX6_canStandAt 4 = .ok (.iload_n 1, 1) := by decide +kernel
theorem dX6_canStandAt_5 : decode cX6_canStandAt 5 = .ok (.iaload, 1) := by decide +kernel
theorem dX6_canStandAt_6 : decode cX6_canStandAt 6 = .ok (.iconst (-1), 1) := by decide +kernel
theorem dX6_canStandAt_7 : decode cX6_canStandAt 7 = .ok (.if_icmp .ne 17, 3) := by decide +kernel
theorem dX6_canStandAt_10 : decode cX6_canStandAt 10 = .ok (.aload_n 0, 1) := by decide +kernel
theorem dX6_canStandAt_11 : decode cX6_canStandAt 11 = .ok (.iload_n 2, 1) := by decide +kernel
theorem dX6_canStandAt_12 : decode cX6_canStandAt 12 = .ok (.iload_n 3, 1) := by decide +kernel
theorem dX6_canStandAt_13 : decode cX6_canStandAt 13 = .ok (.invokevirtual 61, 3) := by decide +kernel
theorem dX6_canStandAt_16 : decode cX6_canStandAt 16 = .ok (.iconst (-1), 1) := by decide +kernel
theorem dX6_canStandAt_17 : decode cX6_canStandAt 17 = .ok (.if_icmp .ne 7, 3) := by decide +kernel
theorem dX6_canStandAt_20 : decode cX6_canStandAt 20 = .ok (.iconst 1, 1) := by decide +kernel
theorem dX6_canStandAt_21 : decode cX6_canStandAt 21 = .ok (.goto 4, 3) := by decide +kernel
theorem dX6_canStandAt_24 : decode cX6_canStandAt 24 = .ok (.iconst 0, 1) := by decide +kernel
theorem dX6_canStandAt_25 : decode cX6_canStandAt 25 = .ok (.ireturn, 1) := by decide +kernel
theorem dX6_someoneHasAge_0 : decode cX6_someoneHasAge 0 = .ok (.iconst 0, 1) := by decide +kernel
theorem dX6_someoneHasAge_1 : decode cX6_someoneHasAge 1 = .ok (.istore_n 3, 1) := by decide +kernel
theorem dX6_someoneHasAge_2 : decode cX6_someoneHasAge 2 = .ok (.iload_n 3, 1) := by decide +kernel
theorem dX6_someoneHasAge_3 : decode cX6_someoneHasAge 3 = .ok (.bipush 6, 2) := by decide +kernel
theorem dX6_someoneHasAge_5 : decode cX6_someoneHasAge 5 = .ok (.if_icmp .ge 29, 3) := by decide +kernel
theorem dX6_someoneHasAge_8 : decode cX6_someoneHasAge 8 = .ok (.iload_n 1, 1) := by decide +kernel
theorem dX6_someoneHasAge_9 : decode cX6_someoneHasAge 9 = .ok (.iload_n 3, 1) := by decide +kernel
theorem dX6_someoneHasAge_10 : decode cX6_someoneHasAge 10 = .ok (.ishr, 1) := by decide +kernel
theorem dX6_someoneHasAge_11 : decode cX6_someoneHasAge 11 = .ok (.iconst 1, 1) := by decide +kernel
theorem dX6_someoneHasAge_12 : decode cX6_someoneHasAge 12 = .ok (.iand, 1) := by decide +kernel
theorem dX6_someoneHasAge_13 : decode cX6_someoneHasAge 13 = .ok (.ifCond .eq 15, 3) := by decide +kernel
theorem dX6_someoneHasAge_16 : decode cX6_someoneHasAge 16 = .ok (.aload_n 0, 1) := by decide +kernel
theorem dX6_someoneHasAge_17 : decode cX6_someoneHasAge 17 = .ok (.getfield 21, 3) := by decide +kernel
theorem dX6_someoneHasAge_20 : decode cX6_someoneHasAge 20 = .ok (.iload_n 3, 1) := by decide +kernel
theorem dX6_someoneHasAge_21 : decode cX6_someoneHasAge 21 = .ok (.iaload, 1) := by decide +kernel
theorem dX6_someoneHasAge_22 : decode cX6_someoneHasAge 22 = .ok (.iload_n 2, 1) := by decide +kernel
theorem dX6_someoneHasAge_23 : decode cX6_someoneHasAge 23 = .ok (.if_icmp .ne 5, 3) := by decide +kernel
theorem dX6_someoneHasAge_26 : decode cX6_someoneHasAge 26 = .ok (.iconst 1, 1) := by decide +kernel
theorem dX6_someoneHasAge_27 : decode cX6_someoneHasAge 27 = .ok (.ireturn, 1) := by decide +kernel
theorem dX6_someoneHasAge_28 : decode cX6_someoneHasAge 28 = .ok (.iinc 3 1, 3) := by decide +kernel
theorem dX6_someoneHasAge_31 : decode cX6_someoneHasAge 31 = .ok (.goto (-29), 3) := by decide +kernel
theorem dX6_someoneHasAge_34 : decode cX6_someoneHasAge 34 = .ok (.iconst 0, 1) := by decide +kernel
theorem dX6_someoneHasAge_35 : decode cX6_someoneHasAge 35 = .ok (.ireturn, 1) := by decide +kernel
theorem dX6_eldestOf_0 : decode cX6_eldestOf 0 = .ok (.iconst (-1), 1) := by decide +kernel
theorem dX6_eldestOf_1 : decode cX6_eldestOf 1 = .ok (.istore_n 2, 1) := by decide +kernel
theorem dX6_eldestOf_2 : decode cX6_eldestOf 2 = .ok (.iconst 0, 1) := by decide +kernel
theorem dX6_eldestOf_3 : decode cX6_eldestOf 3 = .ok (.istore_n 3, 1) := by decide +kernel
theorem dX6_eldestOf_4 : decode cX6_eldestOf 4 = .ok (.iload_n 3, 1) := by decide +kernel
theorem dX6_eldestOf_5 : decode cX6_eldestOf 5 = .ok (.bipush 6, 2) := by decide +kernel
theorem dX6_eldestOf_7 : decode cX6_eldestOf 7 = .ok (.if_icmp .ge 39, 3) := by decide +kernel
theorem dX6_eldestOf_10 : decode cX6_eldestOf 10 = .ok (.iload_n 1, 1) := by decide +kernel
theorem dX6_eldestOf_11 : decode cX6_eldestOf 11 = .ok (.iload_n 3, 1) := by decide +kernel
theorem dX6_eldestOf_12 : decode cX6_eldestOf 12 = .ok (.ishr, 1) := by decide +kernel
theorem dX6_eldestOf_13 : decode cX6_eldestOf 13 = .ok (.iconst 1, 1) := by decide +kernel
theorem dX6_eldestOf_14 : decode cX6_eldestOf 14 = .ok (.iand, 1) := by decide +kernel
theorem dX6_eldestOf_15 : decode cX6_eldestOf 15 = .ok (.ifCond .eq 25, 3) := by decide +kernel
theorem dX6_eldestOf_18 : decode cX6_eldestOf 18 = .ok (.iload_n 2, 1) := by decide +kernel
theorem dX6_eldestOf_19 : decode cX6_eldestOf 19 = .ok (.iconst (-1), 1) := by decide +kernel
theorem dX6_eldestOf_20 : decode cX6_eldestOf 20 = .ok (.if_icmp .eq 18, 3) := by decide +kernel
theorem dX6_eldestOf_23 : decode cX6_eldestOf 23 = .ok (.aload_n 0, 1) := by decide +kernel
theorem dX6_eldestOf_24 : decode cX6_eldestOf 24 = .ok (.getfield 21, 3) := by decide +kernel
theorem dX6_eldestOf_27 : decode cX6_eldestOf 27 = .ok (.iload_n 3, 1) := by decide +kernel
theorem dX6_eldestOf_28 : decode cX6_eldestOf 28 = .ok (.iaload, 1) := by decide +kernel
theorem dX6_eldestOf_29 : decode cX6_eldestOf 29 = .ok (.aload_n 0, 1) := by decide +kernel
theorem dX6_eldestOf_30 : decode cX6_eldestOf 30 = .ok (.getfield 21, 3) := by decide +kernel
theorem dX6_eldestOf_33 : decode cX6_eldestOf 33 = .ok (.iload_n 2, 1) := by decide +kernel
theorem dX6_eldestOf_34 : decode cX6_eldestOf 34 = .ok (.iaload, 1) := by decide +kernel
theorem dX6_eldestOf_35 : decode cX6_eldestOf 35 = .ok (.if_icmp .le 5, 3) := by decide +kernel
theorem dX6_eldestOf_38 : decode cX6_eldestOf 38 = .ok (.iload_n 3, 1) := by decide +kernel
theorem dX6_eldestOf_39 : decode cX6_eldestOf 39 = .ok (.istore_n 2, 1) := by decide +kernel
theorem dX6_eldestOf_40 : decode cX6_eldestOf 40 = .ok (.iinc 3 1, 3) := by decide +kernel
theorem dX6_eldestOf_43 : decode cX6_eldestOf 43 = .ok (.goto (-39), 3) := by decide +kernel
theorem dX6_eldestOf_46 : decode cX6_eldestOf 46 = .ok (.iload_n 2, 1) := by decide +kernel
theorem dX6_eldestOf_47 : decode cX6_eldestOf 47 = .ok (.ireturn, 1) := by decide +kernel
end
section
theorem dX7_init_0 : decode cX7_init 0 = .ok (.aload_n 0, 1) := by decide +kernel
theorem dX7_init_1 : decode cX7_init 1 = .ok (.invokespecial 3, 3) := by decide +kernel
theorem dX7_init_4 : decode cX7_init 4 = .ok (.aload_n 0, 1) := by decide +kernel
theorem dX7_init_5 : decode cX7_init 5 = .ok (.new 9, 3) := by decide +kernel
theorem dX7_init_8 : decode cX7_init 8 = .ok (.dup, 1) := by decide +kernel
theorem dX7_init_9 : decode cX7_init 9 = .ok (.invokespecial 11, 3) := by decide +kernel
theorem dX7_init_12 : decode cX7_init 12 = .ok (.putfield 12, 3) := by decide +kernel
theorem dX7_init_15 : decode cX7_init 15 = .ok (.aload_n 0, 1) := by decide +kernel
theorem dX7_init_16 : decode cX7_init 16 = .ok (.new 16, 3) := by decide +kernel
theorem dX7_init_19 : decode cX7_init 19 = .ok (.dup, 1) := by decide +kernel
theorem dX7_init_20 : decode cX7_init 20 = .ok (.invokespecial 18, 3) := by decide +kernel
theorem dX7_init_23 : decode cX7_init 23 = .ok (.putfield 19, 3) := by decide +kernel
theorem dX7_init_26 : decode cX7_init 26 = .ok (.aload_n 0, 1) := by decide +kernel
theorem dX7_init_27 : decode cX7_init 27 = .ok (.new 23, 3) := by decide +kernel
theorem dX7_init_30 : decode cX7_init 30 = .ok (.dup, 1) := by decide +kernel
theorem dX7_init_31 : decode cX7_init 31 = .ok (.aload_n 0, 1) := by decide +kernel
theorem dX7_init_32 : decode cX7_init 32 = .ok (.getfield 12, 3) := by decide +kernel
theorem dX7_init_35 : decode cX7_init 35 = .ok (.aload_n 0, 1) := by decide +kernel
theorem dX7_init_36 : decode cX7_init 36 = .ok (.getfield 19, 3) := by decide +kernel
theorem dX7_init_39 : decode cX7_init 39 = .ok (.invokespecial 25, 3) := by decide +kernel
theorem dX7_init_42 : decode cX7_init 42 = .ok (.putfield 28, 3) := by decide +kernel
theorem dX7_init_45 : decode cX7_init 45 = .ok (.aload_n 0, 1) := by decide +kernel
theorem dX7_init_46 : decode cX7_init 46 = .ok (.new 16, 3) := by decide +kernel
theorem dX7_init_49 : decode cX7_init 49 = .ok (.dup, 1) := by decide +kernel
theorem dX7_init_50 : decode cX7_init 50 = .ok (.invokespecial 18, 3) := by decide +kernel
theorem dX7_init_53 : decode cX7_init 53 = .ok (.putfield 32, 3) := by decide +kernel
theorem dX7_init_56 : decode cX7_init 56 = .ok (.aload_n 0, 1) := by decide +kernel
theorem dX7_init_57 : decode cX7_init 57 = .ok (.new 23, 3) := by decide +kernel
theorem dX7_init_60 : decode cX7_init 60 = .ok (.dup, 1) := by decide +kernel
theorem dX7_init_61 : decode cX7_init 61 = .ok (.aload_n 0, 1) := by decide +kernel
theorem dX7_init_62 : decode cX7_init 62 = .ok (.getfield 12, 3) := by decide +kernel
theorem dX7_init_65 : decode cX7_init 65 = .ok (.aload_n 0, 1) := by decide +kernel
theorem dX7_init_66 : decode cX7_init 66 = .ok (.getfield 32, 3) := by decide +kernel
theorem dX7_init_69 : decode cX7_init 69 = .ok (.invokespecial 25, 3) := by decide +kernel
theorem dX7_init_72 : decode cX7_init 72 = .ok (.putfield 35, 3) := by decide +kernel
theorem dX7_init_75 : decode cX7_init 75 = .ok (.aload_n 0, 1) := by decide +kernel
theorem dX7_init_76 : decode cX7_init 76 = .ok (.new 38, 3) := by decide +kernel
theorem dX7_init_79 : decode cX7_init 79 = .ok (.dup, 1) := by decide +kernel
theorem dX7_init_80 : decode cX7_init 80 = .ok (.invokespecial 40, 3) := by decide +kernel
theorem dX7_init_83 : decode cX7_init 83 = .ok (.putfield 41, 3) := by decide +kernel
theorem dX7_init_86 : decode cX7_init 86 = .ok (.aload_n 0, 1) := by decide +kernel
theorem dX7_init_87 : decode cX7_init 87 = .ok (.new 45, 3) := by decide +kernel
theorem dX7_init_90 : decode cX7_init 90 = .ok (.dup, 1) := by decide +kernel
theorem dX7_init_91 : decode cX7_init 91 = .ok (.aload_n 0, 1) := by decide +kernel
theorem dX7_init_92 : decode cX7_init 92 = .ok (.getfield 12, 3) := by decide +kernel
theorem dX7_init_95 : decode cX7_init 95 = .ok (.aload_n 0, 1) := by decide +kernel
theorem dX7_init_96 : decode cX7_init 96 = .ok (.getfield 19, 3) := by decide +kernel
theorem dX7_init_99 : decode cX7_init 99 = .ok (.invokespecial 47, 3) := by decide +kernel
theorem dX7_init_102 : decode cX7_init 102 = .ok (.putfield 48, 3) := by decide +kernel
theorem dX7_init_105 : decode cX7_init 105 = .ok (.aload_n 0, 1) := by decide +kernel
theorem dX7_init_106 : decode cX7_init 106 = .ok (.new 52, 3) := by decide +kernel
theorem dX7_init_109 : decode cX7_init 109 = .ok (.dup, 1) := by decide +kernel
theorem dX7_init_110 : decode cX7_init 110 = .ok (.aload_n 0, 1) := by decide +kernel
theorem dX7_init_111 : decode cX7_init 111 = .ok (.getfield 12, 3) := by decide +kernel
theorem dX7_init_114 : decode cX7_init 114 = .ok (.aload_n 0, 1) := by decide +kernel
theorem dX7_init_115 : decode cX7_init 115 = .ok (.getfield 48, 3) := by decide +kernel
theorem dX7_init_118 : decode cX7_init 118 = .ok (.invokespecial 54, 3) := by decide +kernel
theorem dX7_init_121 : decode cX7_init 121 = .ok (.putfield 57, 3) := by decide +kernel
theorem dX7_init_124 : decode cX7_init 124 = .ok (.aload_n 0, 1) := by decide +kernel
theorem dX7_init_125 : decode cX7_init 125 = .ok (.new 61, 3) := by decide +kernel
theorem dX7_init_128 : decode cX7_init 128 = .ok (.dup, 1) := by decide +kernel
theorem dX7_init_129 : decode cX7_init 129 = .ok (.invokespecial 63, 3) := by decide +kernel
theorem dX7_init_132 : decode cX7_init 132 = .ok (.putfield 64, 3) := by decide +kernel
theorem dX7_init_135 : decode cX7_init 135 = .ok (.aload_n 0, 1) := by decide +kernel
theorem dX7_init_136 : decode cX7_init 136 = .ok (.iconst 2, 1) := by decide +kernel
theorem dX7_init_137 : decode cX7_init 137 = .ok (.anewarray 16, 3) := by decide +kernel
theorem dX7_init_140 : decode cX7_init 140 = .ok (.putfield 68, 3) := by decide +kernel
theorem dX7_init_143 : decode cX7_init 143 = .ok (.iconst 0, 1) := by decide +kernel
theorem dX7_init_144 : decode cX7_init 144 = .ok (.istore_n 1, 1) := by decide +kernel
theorem dX7_init_145 : decode cX7_init 145 = .ok (.iload_n 1, 1) := by decide +kernel
theorem dX7_init_146 : decode cX7_init 146 = .ok (.iconst 2, 1) := by decide +kernel
theorem dX7_init_147 : decode cX7_init 147 = .ok (.if_icmp .ge 22, 3) := by decide +kernel
theorem dX7_init_150 : decode cX7_init 150 = .ok (.aload_n 0, 1) := by decide +kernel
theorem dX7_init_151 : decode cX7_init 151 = .ok (.getfield 68, 3) := by decide +kernel
theorem dX7_init_154 : decode cX7_init 154 = .ok (.iload_n 1, 1) := by decide +kernel
theorem dX7_init_155 : decode cX7_init 155 = .ok (.new 16, 3) := by decide +kernel
theorem dX7_init_158 : decode cX7_init 158 = .ok (.dup, 1) := by decide +kernel
theorem dX7_init_159 : decode cX7_init 159 = .ok (.invokespecial 18, 3) := by decide +kernel
theorem dX7_init_162 : decode cX7_init 162 = .ok (.aastore, 1) := by decide +kernel
theorem dX7_init_163 : decode cX7_init 163 = .ok (.iinc 1 1, 3) := by decide +kernel
theorem dX7_init_166 : decode cX7_init 166 = .ok (.goto (-21), 3) := by decide +kernel
theorem dX7_init_169 : decode cX7_init 169 = .ok (.aload_n 0, 1) := by decide +kernel
theorem dX7_init_170 : decode cX7_init 170 = .ok (.iconst 2, 1) := by decide +kernel
theorem dX7_init_171 : decode cX7_init 171 = .ok (.newarray .boolean, 2) := by decide +kernel
theorem dX7_init_173 : decode cX7_init 173 = .ok (.putfield 72, 3) := by decide +kernel
theorem dX7_init_176 : decode cX7_init 176 = .ok (.aload_n 0, 1) := by decide +kernel
theorem dX7_init_177 : decode cX7_init 177 = .ok (.iconst (-1), 1) := by decide +kernel
theorem dX7_init_178 : decode cX7_init 178 = .ok (.putfield 76, 3) := by decide +kernel
theorem dX7_init_181 : decode cX7_init 181 = .ok (.return_, 1) := by decide +kernel
theorem dX7_feed_0 : decode cX7_feed 0 = .ok (.iload_n 1, 1) := by decide +kernel
theorem dX7_feed_1 : decode cX7_feed 1 = .ok (.iconst 1, 1) := by decide +kernel
theorem dX7_feed_2 : decode cX7_feed 2 = .ok (.if_icmp .lt 9, 3) := by decide +kernel
theorem dX7_feed_5 : decode cX7_feed 5 = .ok (.iload_n 1, 1) := by decide +kernel
theorem dX7_feed_6 : decode cX7_feed 6 = .ok (.bipush 8, 2) := by decide +kernel
theorem dX7_feed_8 : decode cX7_feed 8 = .ok (.if_icmp .le 6, 3) := by decide +kernel
theorem dX7_feed_11 : decode cX7_feed 11 = .ok (.ldc 80, 2) := by decide +kernel
theorem dX7_feed_13 : decode cX7_feed 13 = .ok (.ireturn, 1) := by decide +kernel
theorem dX7_feed_14 : decode cX7_feed 14 = .ok (.aload_n 0, 1) := by decide +kernel
theorem dX7_feed_15 : decode cX7_feed 15 = .ok (.getfield 41, 3) := by decide +kernel
theorem dX7_feed_18 : decode cX7_feed 18 = .ok (.getfield 81, 3) := by decide +kernel
theorem dX7_feed_21 : decode cX7_feed 21 = .ok (.iload_n 1, 1) := by decide +kernel
theorem dX7_feed_22 : decode cX7_feed 22 = .ok (.iadd, 1) := by decide +kernel
theorem dX7_feed_23 : decode cX7_feed 23 = .ok (.sipush 500, 3) := by decide +kernel
theorem dX7_feed_26 : decode cX7_feed 26 = .ok (.if_icmp .le 6, 3) := by decide +kernel
theorem dX7_feed_29 : decode cX7_feed 29 = .ok (.ldc 84, 2) := by decide +kernel
theorem dX7_feed_31 : decode cX7_feed 31 = .ok (.ireturn, 1) := by decide +kernel
theorem dX7_feed_32 : decode cX7_feed 32 = .ok (.aload_n 0, 1) := by decide +kernel
theorem dX7_feed_33 : decode cX7_feed 33 = .ok (.getfield 41, 3) := by decide +kernel
theorem dX7_feed_36 : decode cX7_feed 36 = .ok (.iload_n 1, 1) := by decide +kernel
theorem dX7_feed_37 : decode cX7_feed 37 = .ok (.lload_n 2, 1) := by decide +kernel
theorem dX7_feed_38 : decode cX7_feed 38 = .ok (.invokevirtual 85, 3) := by decide +kernel
theorem dX7_feed_41 : decode cX7_feed 41 = .ok (.aload_n 0, 1) := by decide +kernel
theorem dX7_feed_42 : decode cX7_feed 42 = .ok (.getfield 41, 3) := by decide +kernel
theorem dX7_feed_45 : decode cX7_feed 45 = .ok (.getfield 81, 3) := by decide +kernel
theorem dX7_feed_48 : decode cX7_feed 48 = .ok (.ireturn, 1) := by decide +kernel
theorem dX7_house_0 : decode cX7_house 0 = .ok (.aload_n 0, 1) := by decide +kernel
theorem dX7_house_1 : decode cX7_house 1 = .ok (.getfield 41, 3) := by decide +kernel
theorem dX7_house_4 : decode cX7_house 4 = .ok (.invokevirtual 89, 3) := by decide +kernel
theorem dX7_house_7 : decode cX7_house 7 = .ok (.aload_n 0, 1) := by decide +kernel
theorem dX7_house_8 : decode cX7_house 8 = .ok (.getfield 41, 3) := by decide +kernel
theorem dX7_house_11 : decode cX7_house 11 = .ok (.iconst 0, 1) := by decide +kernel
theorem dX7_house_12 : decode cX7_house 12 = .ok (.putfield 81, 3) := by decide +kernel
theorem dX7_house_15 : decode cX7_house 15 = .ok (.aload_n 0, 1) := by decide +kernel
theorem dX7_house_16 : decode cX7_house 16 = .ok (.aload_n 0, 1) := by decide +kernel
theorem dX7_house_17 : decode cX7_house 17 = .ok (.getfield 41, 3) := by decide +kernel
theorem dX7_house_20 : decode cX7_house 20 = .ok (.getfield 92, 3) := by decide +kernel
theorem dX7_house_23 : decode cX7_house 23 = .ok (.putfield 76, 3) := by decide +kernel
theorem dX7_house_26 : decode cX7_house 26 = .ok (.aload_n 0, 1) := by decide +kernel
theorem dX7_house_27 : decode cX7_house 27 = .ok (.getfield 41, 3) := by decide +kernel
theorem dX7_house_30 : decode cX7_house 30 = .ok (.getfield 93, 3) := by decide +kernel
theorem dX7_house_33 : decode cX7_house 33 = .ok (.ifCond .eq 14, 3) := by decide +kernel
theorem dX7_house_36 : decode cX7_house 36 = .ok (.bipush (-10), 2) := by decide +kernel
theorem dX7_house_38 : decode cX7_house 38 = .ok (.aload_n 0, 1) := by decide +kernel
theorem dX7_house_39 : decode cX7_house 39 = .ok (.getfield 41, 3) := by decide +kernel
theorem dX7_house_42 : decode cX7_house 42 = .ok (.getfield 93, 3) := by decide +kernel
theorem dX7_house_45 : decode cX7_house 45 = .ok (.isub, 1) := by decide +kernel
theorem dX7_house_46 : decode cX7_house 46 = .ok (.ireturn, 1) := by decide +kernel
theorem dX7_house_47 : decode cX7_house 47 = .ok (.aload_n 0, 1) := by decide +kernel
theorem dX7_house_48 : decode cX7_house 48 = .ok (.getfield 12, 3) := by decide +kernel
theorem dX7_house_51 : decode cX7_house 51 = .ok (.aload_n 0, 1) := by decide +kernel
theorem dX7_house_52 : decode cX7_house 52 = .ok (.getfield 41, 3) := by decide +kernel
theorem dX7_house_55 : decode cX7_house 55 = .ok (.getfield 96, 3) := by decide +kernel
theorem dX7_house_58 : decode cX7_house 58 = .ok (.invokevirtual 99, 3) := by decide +kernel
theorem dX7_house_61 : decode cX7_house 61 = .ok (.aload_n 0, 1) := by decide +kernel
theorem dX7_house_62 : decode cX7_house 62 = .ok (.getfield 19, 3) := by decide +kernel
theorem dX7_house_65 : decode cX7_house 65 = .ok (.aload_n 0, 1) := by decide +kernel
theorem dX7_house_66 : decode cX7_house 66 = .ok (.getfield 12, 3) := by decide +kernel
theorem dX7_house_69 : decode cX7_house 69 = .ok (.invokevirtual 103, 3) := by decide +kernel
theorem dX7_house_72 : decode cX7_house 72 = .ok (.aload_n 0, 1) := by decide +kernel
theorem dX7_house_73 : decode cX7_house 73 = .ok (.getfield 48, 3) := by decide +kernel
theorem dX7_house_76 : decode cX7_house 76 = .ok (.invokevirtual 106, 3) := by decide +kernel
theorem dX7_house_79 : decode cX7_house 79 = .ok (.aload_n 0, 1) := by decide +kernel
theorem dX7_house_80 : decode cX7_house 80 = .ok (.getfield 64, 3) := by decide +kernel
theorem dX7_house_83 : decode cX7_house 83 = .ok (.iconst 0, 1) := by decide +kernel
theorem dX7_house_84 : decode cX7_house 84 = .ok (.putfield 109, 3) := by decide +kernel
theorem dX7_house_87 : decode cX7_house 87 = .ok (.iconst 0, 1) := by decide +kernel
theorem dX7_house_88 : decode cX7_house 88 = .ok (.istore_n 1, 1) := by decide +kernel
theorem dX7_house_89 : decode cX7_house 89 = .ok (.iload_n 1, 1) := by decide +kernel
theorem dX7_house_90 : decode cX7_house 90 = .ok (.iconst 2, 1) := by decide +kernel
theorem dX7_house_91 : decode cX7_house 91 = .ok (.if_icmp .ge 16, 3) := by decide +kernel
theorem dX7_house_94 : decode cX7_house 94 = .ok (.aload_n 0, 1) := by decide +kernel
theorem dX7_house_95 : decode cX7_house 95 = .ok (.getfield 72, 3) := by decide +kernel
theorem dX7_house_98 : decode cX7_house 98 = .ok (.iload_n 1, 1) := by decide +kernel
theorem dX7_house_99 : decode cX7_house 99 = .ok (.iconst 0, 1) := by decide +kernel
theorem dX7_house_100 : decode cX7_house 100 = .ok (.bastore, 1) := by decide +kernel
theorem dX7_house_101 : decode cX7_house 101 = .ok (.iinc 1 1, 3) := by decide +kernel
theorem dX7_house_104 : decode cX7_house 104 = .ok (.goto (-15), 3) := by decide +kernel
theorem dX7_house_107 : decode cX7_house 107 = .ok (.aload_n 0, 1) := by decide +kernel
theorem dX7_house_108 : decode cX7_house 108 = .ok (.getfield 12, 3) := by decide +kernel
theorem dX7_house_111 : decode cX7_house 111 = .ok (.getfield 112, 3) := by decide +kernel
theorem dX7_house_114 : decode cX7_house 114 = .ok (.ireturn, 1) := by decide +kernel
theorem dX7_fault_0 : decode cX7_fault 0 = .ok (.aload_n 0, 1) := by decide +kernel
theorem dX7_fault_1 : decode cX7_fault 1 = .ok (.getfield 76, 3) := by decide +kernel
theorem dX7_fault_4 : decode cX7_fault 4 = .ok (.ireturn, 1) := by decide +kernel
theorem dX7_told_0 : decode cX7_told 0 = .ok (.iload_n 1, 1) := by decide +kernel
theorem dX7_told_1 : decode cX7_told 1 = .ok (.tableswitch 99 0 6 #[43, 51, 59, 67, 75, 83, 91], 43) := by decide +kernel
theorem dX7_told_44 : decode cX7_told 44 = .ok (.aload_n 0, 1) := by decide +kernel
theorem dX7_told_45 : decode cX7_told 45 = .ok (.getfield 12, 3) := by decide +kernel
theorem dX7_told_48 : decode cX7_told 48 = .ok (.getfield 115, 3) := by decide +kernel
theorem dX7_told_51 : decode cX7_told 51 = .ok (.ireturn, 1) := by decide +kernel
theorem dX7_told_52 : decode cX7_told 52 = .ok (.aload_n 0, 1) := by decide +kernel
theorem dX7_told_53 : decode cX7_told 53 = .ok (.getfield 12, 3) := by decide +kernel
theorem dX7_told_56 : decode cX7_told 56 = .ok (.getfield 112, 3) := by decide +kernel
theorem dX7_told_59 : decode cX7_told 59 = .ok (.ireturn, 1) := by decide +kernel
theorem dX7_told_60 : decode cX7_told 60 = .ok (.aload_n 0, 1) := by decide +kernel
theorem dX7_told_61 : decode cX7_told 61 = .ok (.getfield 12, 3) := by decide +kernel
theorem dX7_told_64 : decode cX7_told 64 = .ok (.getfield 118, 3) := by decide +kernel
theorem dX7_told_67 : decode cX7_told 67 = .ok (.ireturn, 1) := by decide +kernel
theorem dX7_told_68 : decode cX7_told 68 = .ok (.aload_n 0, 1) := by decide +kernel
theorem dX7_told_69 : decode cX7_told 69 = .ok (.getfield 41, 3) := by decide +kernel
theorem dX7_told_72 : decode cX7_told 72 = .ok (.getfield 81, 3) := by decide +kernel
theorem dX7_told_75 : decode cX7_told 75 = .ok (.ireturn, 1) := by decide +kernel
theorem dX7_told_76 : decode cX7_told 76 = .ok (.aload_n 0, 1) := by decide +kernel
theorem dX7_told_77 : decode cX7_told 77 = .ok (.getfield 19, 3) := by decide +kernel
theorem dX7_told_80 : decode cX7_told 80 = .ok (.getfield 121, 3) := by decide +kernel
theorem dX7_told_83 : decode cX7_told 83 = .ok (.ireturn, 1) := by decide +kernel
theorem dX7_told_84 : decode cX7_told 84 = .ok (.aload_n 0, 1) := by decide +kernel
theorem dX7_told_85 : decode cX7_told 85 = .ok (.getfield 64, 3) := by decide +kernel
theorem dX7_told_88 : decode cX7_told 88 = .ok (.getfield 109, 3) := by decide +kernel
theorem dX7_told_91 : decode cX7_told 91 = .ok (.ireturn, 1) := by decide +kernel
theorem dX7_told_92 : decode cX7_told 92 = .ok (.aload_n 0, 1) := by decide +kernel
theorem dX7_told_93 : decode cX7_told 93 = .ok (.getfield 19, 3) := by decide +kernel
theorem dX7_told_96 : decode cX7_told 96 = .ok (.invokevirtual 124, 3) := by decide +kernel
theorem dX7_told_99 : decode cX7_told 99 = .ok (.ireturn, 1) := by decide +kernel
theorem dX7_told_100 : decode cX7_told 100 = .ok (.ldc 80, 2) := by decide +kernel
theorem dX7_told_102 : decode cX7_told 102 = .ok (.ireturn, 1) := by decide +kernel
theorem dX7_room_0 : decode cX7_room 0 = .ok (.aload_n 0, 1) := by decide +kernel
theorem dX7_room_1 : decode cX7_room 1 = .ok (.getfield 12, 3) := by decide +kernel
theorem dX7_room_4 : decode cX7_room 4 = .ok (.iload_n 1, 1) := by decide +kernel
theorem dX7_room_5 : decode cX7_room 5 = .ok (.invokevirtual 128, 3) := by decide +kernel
theorem dX7_room_8 : decode cX7_room 8 = .ok (.ifCond .ne 6, 3) := by decide +kernel
theorem dX7_room_11 : decode cX7_room 11 = .ok (.ldc 132, 2) := by decide +kernel
theorem dX7_room_13 : decode cX7_room 13 = .ok (.ireturn, 1) := by decide +kernel
theorem dX7_room_14 : decode cX7_room 14 = .ok (.iload_n 2, 1) := by decide +kernel
theorem dX7_room_15 : decode cX7_room 15 = .ok (.iconst (-1), 1) := by decide +kernel
theorem dX7_room_16 : decode cX7_room 16 = .ok (.if_icmp .ne 12, 3) := by decide +kernel
theorem dX7_room_19 : decode cX7_room 19 = .ok (.aload_n 0, 1) := by decide +kernel
theorem dX7_room_20 : decode cX7_room 20 = .ok (.getfield 12, 3) := by decide +kernel
theorem dX7_room_23 : decode cX7_room 23 = .ok (.iload_n 1, 1) := by decide +kernel
theorem dX7_room_24 : decode cX7_room 24 = .ok (.invokevirtual 133, 3) := by decide +kernel
theorem dX7_room_27 : decode cX7_room 27 = .ok (.ireturn, 1) := by decide +kernel
theorem dX7_room_28 : decode cX7_room 28 = .ok (.aload_n 0, 1) := by decide +kernel
theorem dX7_room_29 : decode cX7_room 29 = .ok (.getfield 12, 3) := by decide +kernel
theorem dX7_room_32 : decode cX7_room 32 = .ok (.iload_n 1, 1) := by decide +kernel
theorem dX7_room_33 : decode cX7_room 33 = .ok (.iload_n 2, 1) := by decide +kernel
theorem dX7_room_34 : decode cX7_room 34 = .ok (.invokevirtual 137, 3) := by decide +kernel
theorem dX7_room_37 : decode cX7_room 37 = .ok (.ifCond .ne 6, 3) := by decide +kernel
theorem dX7_room_40 : decode cX7_room 40 = .ok (.ldc 132, 2) := by decide +kernel
theorem dX7_room_42 : decode cX7_room 42 = .ok (.ireturn, 1) := by decide +kernel
theorem dX7_room_43 : decode cX7_room 43 = .ok (.iload_n 3, 1) := by decide +kernel
theorem dX7_room_44 : decode cX7_room 44 = .ok (.ifCond .lt 8, 3) := by decide +kernel
theorem dX7_room_47 : decode cX7_room 47 = .ok (.iload_n 3, 1) := by decide +kernel
theorem dX7_room_48 : decode cX7_room 48 = .ok (.iconst 1, 1) := by decide +kernel
theorem dX7_room_49 : decode cX7_room 49 = .ok (.if_icmp .le 6, 3) := by decide +kernel
theorem dX7_room_52 : decode cX7_room 52 = .ok (.ldc 80, 2) := by decide +kernel
theorem dX7_room_54 : decode cX7_room 54 = .ok (.ireturn, 1) := by decide +kernel
theorem dX7_room_55 : decode cX7_room 55 = .ok (.iload_n 3, 1) := by decide +kernel
theorem dX7_room_56 : decode cX7_room 56 = .ok (.ifCond .ne 15, 3) := by decide +kernel
theorem dX7_room_59 : decode cX7_room 59 = .ok (.aload_n 0, 1) := by decide +kernel
theorem dX7_room_60 : decode cX7_room 60 = .ok (.getfield 12, 3) := by decide +kernel
theorem dX7_room_63 : decode cX7_room 63 = .ok (.iload_n 1, 1) := by decide +kernel
theorem dX7_room_64 : decode cX7_room 64 = .ok (.iload_n 2, 1) := by decide +kernel
theorem dX7_room_65 : decode cX7_room 65 = .ok (.invokevirtual 141, 3) := by decide +kernel
theorem dX7_room_68 : decode cX7_room 68 = .ok (.goto 12, 3) := by decide +kernel
theorem dX7_room_71 : decode cX7_room 71 = .ok (.aload_n 0, 1) := by decide +kernel
theorem dX7_room_72 : decode cX7_room 72 = .ok (.getfield 19, 3) := by decide +kernel
theorem dX7_room_75 : decode cX7_room 75 = .ok (.iload_n 1, 1) := by decide +kernel
theorem dX7_room_76 : decode cX7_room 76 = .ok (.iload_n 2, 1) := by decide +kernel
theorem dX7_room_77 : decode cX7_room 77 = .ok (.invokevirtual 145, 3) := by decide +kernel
theorem dX7_room_80 : decode cX7_room 80 = .ok (.ireturn, 1) := by decide +kernel
theorem dX7_person_0 : decode cX7_person 0 = .ok (.aload_n 0, 1) := by decide +kernel
theorem dX7_person_1 : decode cX7_person 1 = .ok (.getfield 12, 3) := by decide +kernel
theorem dX7_person_4 : decode cX7_person 4 = .ok (.iload_n 1, 1) := by decide +kernel
theorem dX7_person_5 : decode cX7_person 5 = .ok (.invokevirtual 148, 3) := by decide +kernel
theorem dX7_person_8 : decode cX7_person 8 = .ok (.ifCond .ne 6, 3) := by decide +kernel
theorem dX7_person_11 : decode cX7_person 11 = .ok (.ldc 132, 2) := by decide +kernel
theorem dX7_person_13 : decode cX7_person 13 = .ok (.ireturn, 1) := by decide +kernel
theorem dX7_person_14 : decode cX7_person 14 = .ok (.iload_n 2, 1) := by decide +kernel
theorem dX7_person_15 : decode cX7_person 15 = .ok (.tableswitch 141 0 7 #[45, 55, 65, 75, 85, 95, 105, 115], 45) := by decide +kernel
theorem dX7_person_60 : decode cX7_person 60 = .ok (.aload_n 0, 1) := by decide +kernel
theorem dX7_person_61 : decode cX7_person 61 = .ok (.getfield 19, 3) := by decide +kernel
theorem dX7_person_64 : decode cX7_person 64 = .ok (.getfield 151, 3) := by decide +kernel
theorem dX7_person_67 : decode cX7_person 67 = .ok (.iload_n 1, 1) := by decide +kernel
theorem dX7_person_68 : decode cX7_person 68 = .ok (.iaload, 1) := by decide +kernel
theorem dX7_person_69 : decode cX7_person 69 = .ok (.ireturn, 1) := by decide +kernel
theorem dX7_person_70 : decode cX7_person 70 = .ok (.aload_n 0, 1) := by decide +kernel
theorem dX7_person_71 : decode cX7_person 71 = .ok (.getfield 19, 3) := by decide +kernel
theorem dX7_person_74 : decode cX7_person 74 = .ok (.getfield 155, 3) := by decide +kernel
theorem dX7_person_77 : decode cX7_person 77 = .ok (.iload_n 1, 1) := by decide +kernel
theorem dX7_person_78 : decode cX7_person 78 = .ok (.iaload, 1) := by decide +kernel
theorem dX7_person_79 : decode cX7_person 79 = .ok (.ireturn, 1) := by decide +kernel
theorem dX7_person_80 : decode cX7_person 80 = .ok (.aload_n 0, 1) := by decide +kernel
theorem dX7_person_81 : decode cX7_person 81 = .ok (.getfield 12, 3) := by decide +kernel
theorem dX7_person_84 : decode cX7_person 84 = .ok (.getfield 158, 3) := by decide +kernel
theorem dX7_person_87 : decode cX7_person 87 = .ok (.iload_n 1, 1) := by decide +kernel
theorem dX7_person_88 : decode cX7_person 88 = .ok (.iaload, 1) := by decide +kernel
theorem dX7_person_89 : decode cX7_person 89 = .ok (.ireturn, 1) := by decide +kernel
theorem dX7_person_90 : decode cX7_person 90 = .ok (.aload_n 0, 1) := by decide +kernel
theorem dX7_person_91 : decode cX7_person 91 = .ok (.getfield 12, 3) := by decide +kernel
theorem dX7_person_94 : decode cX7_person 94 = .ok (.getfield 161, 3) := by decide +kernel
theorem dX7_person_97 : decode cX7_person 97 = .ok (.iload_n 1, 1) := by decide +kernel
theorem dX7_person_98 : decode cX7_person 98 = .ok (.iaload, 1) := by decide +kernel
theorem dX7_person_99 : decode cX7_person 99 = .ok (.ireturn, 1) := by decide +kernel
theorem dX7_person_100 : decode cX7_person 100 = .ok (.aload_n 0, 1) := by decide +kernel
theorem dX7_person_101 : decode cX7_person 101 = .ok (.getfield 19, 3) := by decide +kernel
theorem dX7_person_104 : decode cX7_person 104 = .ok (.getfield 164, 3) := by decide +kernel
theorem dX7_person_107 : decode cX7_person 107 = .ok (.iload_n 1, 1) := by decide +kernel
theorem dX7_person_108 : decode cX7_person 108 = .ok (.iaload, 1) := by decide +kernel
theorem dX7_person_109 : decode cX7_person 109 = .ok (.ireturn, 1) := by decide +kernel
theorem dX7_person_110 : decode cX7_person 110 = .ok (.aload_n 0, 1) := by decide +kernel
theorem dX7_person_111 : decode cX7_person 111 = .ok (.getfield 19, 3) := by decide +kernel
theorem dX7_person_114 : decode cX7_person 114 = .ok (.getfield 167, 3) := by decide +kernel
theorem dX7_person_117 : decode cX7_person 117 = .ok (.iload_n 1, 1) := by decide +kernel
theorem dX7_person_118 : decode cX7_person 118 = .ok (.iaload, 1) := by decide +kernel
theorem dX7_person_119 : decode cX7_person 119 = .ok (.ireturn, 1) := by decide +kernel
theorem dX7_person_120 : decode cX7_person 120 = .ok (.aload_n 0, 1) := by decide +kernel
theorem dX7_person_121 : decode cX7_person 121 = .ok (.getfield 19, 3) := by decide +kernel
theorem dX7_person_124 : decode cX7_person 124 = .ok (.getfield 170, 3) := by decide +kernel
theorem dX7_person_127 : decode cX7_person 127 = .ok (.iload_n 1, 1) := by decide +kernel
theorem dX7_person_128 : decode cX7_person 128 = .ok (.iaload, 1) := by decide +kernel
theorem dX7_person_129 : decode cX7_person 129 = .ok (.ireturn, 1) := by decide +kernel
theorem dX7_person_130 : decode cX7_person 130 = .ok (.aload_n 0, 1) := by decide +kernel
theorem dX7_person_131 : decode cX7_person 131 = .ok (.getfield 19, 3) := by decide +kernel
theorem dX7_person_134 : decode cX7_person 134 = .ok (.getfield 164, 3) := by decide +kernel
theorem dX7_person_137 : decode cX7_person 137 = .ok (.iload_n 1, 1) := by decide +kernel
theorem dX7_person_138 : decode cX7_person 138 = .ok (.iaload, 1) := by decide +kernel
theorem dX7_person_139 : decode cX7_person 139 = .ok (.iconst (-1), 1) := by decide +kernel
theorem dX7_person_140 : decode cX7_person 140 = .ok (.if_icmp .ne 7, 3) := by decide +kernel
theorem dX7_person_143 : decode cX7_person 143 = .ok (.iconst (-1), 1) := by decide +kernel
theorem dX7_person_144 : decode cX7_person 144 = .ok (.goto 11, 3) := by decide +kernel
theorem dX7_person_147 : decode cX7_person 147 = .ok (.aload_n 0, 1) := by decide +kernel
theorem dX7_person_148 : decode cX7_person 148 = .ok (.getfield 28, 3) := by decide +kernel
theorem dX7_person_151 : decode cX7_person 151 = .ok (.iload_n 1, 1) := by decide +kernel
theorem dX7_person_152 : decode cX7_person 152 = .ok (.invokevirtual 173, 3) := by decide +kernel
theorem dX7_person_155 : decode cX7_person 155 = .ok (.ireturn, 1) := by decide +kernel
theorem dX7_person_156 : decode cX7_person 156 = .ok (.ldc 80, 2) := by decide +kernel
theorem dX7_person_158 : decode cX7_person 158 = .ok (.ireturn, 1) := by decide +kernel
theorem dX7_friends_0 : decode cX7_friends 0 = .ok (.aload_n 0, 1) := by decide +kernel
theorem dX7_friends_1 : decode cX7_friends 1 = .ok (.getfield 12, 3) := by decide +kernel
theorem dX7_friends_4 : decode cX7_friends 4 = .ok (.iload_n 1, 1) := by decide +kernel
theorem dX7_friends_5 : decode cX7_friends 5 = .ok (.invokevirtual 148, 3) := by decide +kernel
theorem dX7_friends_8 : decode cX7_friends 8 = .ok (.ifCond .eq 19, 3) := by decide +kernel
theorem dX7_friends_11 : decode cX7_friends 11 = .ok (.aload_n 0, 1) := by decide +kernel
theorem dX7_friends_12 : decode cX7_friends 12 = .ok (.getfield 12, 3) := by decide +kernel
theorem dX7_friends_15 : decode cX7_friends 15 = .ok (.iload_n 2, 1) := by decide +kernel
theorem dX7_friends_16 : decode cX7_friends 16 = .ok (.invokevirtual 148, 3) := by decide +kernel
theorem dX7_friends_19 : decode cX7_friends 19 = .ok (.ifCond .eq 8, 3) := by decide +kernel
theorem dX7_friends_22 : decode cX7_friends 22 = .ok (.iload_n 1, 1) := by decide +kernel
theorem dX7_friends_23 : decode cX7_friends 23 = .ok (.iload_n 2, 1) := by decide +kernel
theorem dX7_friends_24 : decode cX7_friends 24 = .ok (.if_icmp .ne 6, 3) := by decide +kernel
theorem dX7_friends_27 : decode cX7_friends 27 = .ok (.ldc 132, 2) := by decide +kernel
theorem dX7_friends_29 : decode cX7_friends 29 = .ok (.ireturn, 1) := by decide +kernel
theorem dX7_friends_30 : decode cX7_friends 30 = .ok (.aload_n 0, 1) := by decide +kernel
theorem dX7_friends_31 : decode cX7_friends 31 = .ok (.getfield 12, 3) := by decide +kernel
theorem dX7_friends_34 : decode cX7_friends 34 = .ok (.iload_n 1, 1) := by decide +kernel
theorem dX7_friends_35 : decode cX7_friends 35 = .ok (.iload_n 2, 1) := by decide +kernel
theorem dX7_friends_36 : decode cX7_friends 36 = .ok (.invokevirtual 176, 3) := by decide +kernel
theorem dX7_friends_39 : decode cX7_friends 39 = .ok (.ireturn, 1) := by decide +kernel
theorem dX7_law_0 : decode cX7_law 0 = .ok (.iload_n 1, 1) := by decide +kernel
theorem dX7_law_1 : decode cX7_law 1 = .ok (.ifCond .lt 8, 3) := by decide +kernel
theorem dX7_law_4 : decode cX7_law 4 = .ok (.iload_n 1, 1) := by decide +kernel
theorem dX7_law_5 : decode cX7_law 5 = .ok (.iconst 1, 1) := by decide +kernel
theorem dX7_law_6 : decode cX7_law 6 = .ok (.if_icmp .le 6, 3) := by decide +kernel
theorem dX7_law_9 : decode cX7_law 9 = .ok (.ldc 80, 2) := by decide +kernel
theorem dX7_law_11 : decode cX7_law 11 = .ok (.ireturn, 1) := by decide +kernel
theorem dX7_law_12 : decode cX7_law 12 = .ok (.aload_n 0, 1) := by decide +kernel
theorem dX7_law_13 : decode cX7_law 13 = .ok (.getfield 19, 3) := by decide +kernel
theorem dX7_law_16 : decode cX7_law 16 = .ok (.getfield 121, 3) := by decide +kernel
theorem dX7_law_19 : decode cX7_law 19 = .ok (.istore_n 2, 1) := by decide +kernel
theorem dX7_law_20 : decode cX7_law 20 = .ok (.aload_n 0, 1) := by decide +kernel
theorem dX7_law_21 : decode cX7_law 21 = .ok (.getfield 19, 3) := by decide +kernel
theorem dX7_law_24 : decode cX7_law 24 = .ok (.iload_n 1, 1) := by decide +kernel
theorem dX7_law_25 : decode cX7_law 25 = .ok (.putfield 121, 3) := by decide +kernel
theorem dX7_law_28 : decode cX7_law 28 = .ok (.iload_n 2, 1) := by decide +kernel
theorem dX7_law_29 : decode cX7_law 29 = .ok (.ireturn, 1) := by decide +kernel
theorem dX7_put_0 : decode cX7_put 0 = .ok (.aload_n 0, 1) := by decide +kernel
theorem dX7_put_1 : decode cX7_put 1 = .ok (.iload_n 1, 1) := by decide +kernel
theorem dX7_put_2 : decode cX7_put 2 = .ok (.iload_n 2, 1) := by decide +kernel
theorem dX7_put_3 : decode cX7_put 3 = .ok (.iload_n 3, 1) := by decide +kernel
theorem dX7_put_4 : decode cX7_put 4 = .ok (.invokevirtual 179, 3) := by decide +kernel
theorem dX7_put_7 : decode cX7_put 7 = .ok (.ifCond .ne 6, 3) := by decide +kernel
theorem dX7_put_10 : decode cX7_put 10 = .ok (.ldc 132, 2) := by decide +kernel
theorem dX7_put_12 : decode cX7_put 12 = .ok (.ireturn, 1) := by decide +kernel
theorem dX7_put_13 : decode cX7_put 13 = .ok (.aload_n 0, 1) := by decide +kernel
theorem dX7_put_14 : decode cX7_put 14 = .ok (.getfield 19, 3) := by decide +kernel
theorem dX7_put_17 : decode cX7_put 17 = .ok (.iload_n 1, 1) := by decide +kernel
theorem dX7_put_18 : decode cX7_put 18 = .ok (.iload_n 2, 1) := by decide +kernel
theorem dX7_put_19 : decode cX7_put 19 = .ok (.iload_n 3, 1) := by decide +kernel
theorem dX7_put_20 : decode cX7_put 20 = .ok (.invokevirtual 183, 3) := by decide +kernel
theorem dX7_put_23 : decode cX7_put 23 = .ok (.ifCond .ne 6, 3) := by decide +kernel
theorem dX7_put_26 : decode cX7_put 26 = .ok (.ldc 186, 2) := by decide +kernel
theorem dX7_put_28 : decode cX7_put 28 = .ok (.ireturn, 1) := by decide +kernel
theorem dX7_put_29 : decode cX7_put 29 = .ok (.aload_n 0, 1) := by decide +kernel
theorem dX7_put_30 : decode cX7_put 30 = .ok (.getfield 19, 3) := by decide +kernel
theorem dX7_put_33 : decode cX7_put 33 = .ok (.iload_n 1, 1) := by decide +kernel
theorem dX7_put_34 : decode cX7_put 34 = .ok (.iload_n 2, 1) := by decide +kernel
theorem dX7_put_35 : decode cX7_put 35 = .ok (.iload_n 3, 1) := by decide +kernel
theorem dX7_put_36 : decode cX7_put 36 = .ok (.invokevirtual 187, 3) := by decide +kernel
theorem dX7_put_39 : decode cX7_put 39 = .ok (.aload_n 0, 1) := by decide +kernel
theorem dX7_put_40 : decode cX7_put 40 = .ok (.getfield 19, 3) := by decide +kernel
theorem dX7_put_43 : decode cX7_put 43 = .ok (.iload_n 2, 1) := by decide +kernel
theorem dX7_put_44 : decode cX7_put 44 = .ok (.invokevirtual 191, 3) := by decide +kernel
theorem dX7_put_47 : decode cX7_put 47 = .ok (.ireturn, 1) := by decide +kernel
theorem dX7_leave_0 : decode cX7_leave 0 = .ok (.aload_n 0, 1) := by decide +kernel
theorem dX7_leave_1 : decode cX7_leave 1 = .ok (.getfield 12, 3) := by decide +kernel
theorem dX7_leave_4 : decode cX7_leave 4 = .ok (.iload_n 1, 1) := by decide +kernel
theorem dX7_leave_5 : decode cX7_leave 5 = .ok (.invokevirtual 148, 3) := by decide +kernel
theorem dX7_leave_8 : decode cX7_leave 8 = .ok (.ifCond .ne 6, 3) := by decide +kernel
theorem dX7_leave_11 : decode cX7_leave 11 = .ok (.ldc 132, 2) := by decide +kernel
theorem dX7_leave_13 : decode cX7_leave 13 = .ok (.ireturn, 1) := by decide +kernel
theorem dX7_leave_14 : decode cX7_leave 14 = .ok (.aload_n 0, 1) := by decide +kernel
theorem dX7_leave_15 : decode cX7_leave 15 = .ok (.getfield 19, 3) := by decide +kernel
theorem dX7_leave_18 : decode cX7_leave 18 = .ok (.getfield 164, 3) := by decide +kernel
theorem dX7_leave_21 : decode cX7_leave 21 = .ok (.iload_n 1, 1) := by decide +kernel
theorem dX7_leave_22 : decode cX7_leave 22 = .ok (.iaload, 1) := by decide +kernel
theorem dX7_leave_23 : decode cX7_leave 23 = .ok (.istore_n 2, 1) := by decide +kernel
theorem dX7_leave_24 : decode cX7_leave 24 = .ok (.iload_n 2, 1) := by decide +kernel
theorem dX7_leave_25 : decode cX7_leave 25 = .ok (.iconst (-1), 1) := by decide +kernel
theorem dX7_leave_26 : decode cX7_leave 26 = .ok (.if_icmp .ne 6, 3) := by decide +kernel
theorem dX7_leave_29 : decode cX7_leave 29 = .ok (.ldc 186, 2) := by decide +kernel
theorem dX7_leave_31 : decode cX7_leave 31 = .ok (.ireturn, 1) := by decide +kernel
theorem dX7_leave_32 : decode cX7_leave 32 = .ok (.aload_n 0, 1) := by decide +kernel
theorem dX7_leave_33 : decode cX7_leave 33 = .ok (.getfield 19, 3) := by decide +kernel
theorem dX7_leave_36 : decode cX7_leave 36 = .ok (.iload_n 1, 1) := by decide +kernel
theorem dX7_leave_37 : decode cX7_leave 37 = .ok (.invokevirtual 194, 3) := by decide +kernel
theorem dX7_leave_40 : decode cX7_leave 40 = .ok (.iload_n 2, 1) := by decide +kernel
theorem dX7_leave_41 : decode cX7_leave 41 = .ok (.ireturn, 1) := by decide +kernel
theorem dX7_bend_0 : decode cX7_bend 0 = .ok (.aload_n 0, 1) := by decide +kernel
theorem dX7_bend_1 : decode cX7_bend 1 = .ok (.getfield 12, 3) := by decide +kernel
theorem dX7_bend_4 : decode cX7_bend 4 = .ok (.iload_n 1, 1) := by decide +kernel
theorem dX7_bend_5 : decode cX7_bend 5 = .ok (.invokevirtual 148, 3) := by decide +kernel
theorem dX7_bend_8 : decode cX7_bend 8 = .ok (.ifCond .ne 6, 3) := by decide +kernel
theorem dX7_bend_11 : decode cX7_bend 11 = .ok (.ldc 132, 2) := by decide +kernel
theorem dX7_bend_13 : decode cX7_bend 13 = .ok (.ireturn, 1) := by decide +kernel
theorem dX7_bend_14 : decode cX7_bend 14 = .ok (.iload_n 2, 1) := by decide +kernel
theorem dX7_bend_15 : decode cX7_bend 15 = .ok (.ifCond .lt 16, 3) := by decide +kernel
theorem dX7_bend_18 : decode cX7_bend 18 = .ok (.iload_n 2, 1) := by decide +kernel
theorem dX7_bend_19 : decode cX7_bend 19 = .ok (.aload_n 0, 1) := by decide +kernel
theorem dX7_bend_20 : decode cX7_bend 20 = .ok (.getfield 12, 3) := by decide +kernel
theorem dX7_bend_23 : decode cX7_bend 23 = .ok (.getfield 158, 3) := by decide +kernel
theorem dX7_bend_26 : decode cX7_bend 26 = .ok (.iload_n 1, 1) := by decide +kernel
theorem dX7_bend_27 : decode cX7_bend 27 = .ok (.iaload, 1) := by decide +kernel
theorem dX7_bend_28 : decode cX7_bend 28 = .ok (.if_icmp .le 6, 3) := by decide +kernel
theorem dX7_bend_31 : decode cX7_bend 31 = .ok (.ldc 80, 2) := by decide +kernel
theorem dX7_bend_33 : decode cX7_bend 33 = .ok (.ireturn, 1) := by decide +kernel
theorem dX7_bend_34 : decode cX7_bend 34 = .ok (.aload_n 0, 1) := by decide +kernel
theorem dX7_bend_35 : decode cX7_bend 35 = .ok (.getfield 19, 3) := by decide +kernel
theorem dX7_bend_38 : decode cX7_bend 38 = .ok (.getfield 164, 3) := by decide +kernel
theorem dX7_bend_41 : decode cX7_bend 41 = .ok (.iload_n 1, 1) := by decide +kernel
theorem dX7_bend_42 : decode cX7_bend 42 = .ok (.iaload, 1) := by decide +kernel
theorem dX7_bend_43 : decode cX7_bend 43 = .ok (.iconst (-1), 1) := by decide +kernel
theorem dX7_bend_44 : decode cX7_bend 44 = .ok (.if_icmp .ne 6, 3) := by decide +kernel
theorem dX7_bend_47 : decode cX7_bend 47 = .ok (.ldc 186, 2) := by decide +kernel
theorem dX7_bend_49 : decode cX7_bend 49 = .ok (.ireturn, 1) := by decide +kernel
theorem dX7_bend_50 : decode cX7_bend 50 = .ok (.aload_n 0, 1) := by decide +kernel
theorem dX7_bend_51 : decode cX7_bend 51 = .ok (.getfield 19, 3) := by decide +kernel
theorem dX7_bend_54 : decode cX7_bend 54 = .ok (.getfield 170, 3) := by decide +kernel
theorem dX7_bend_57 : decode cX7_bend 57 = .ok (.iload_n 1, 1) := by decide +kernel
theorem dX7_bend_58 : decode cX7_bend 58 = .ok (.iaload, 1) := by decide +kernel
theorem dX7_bend_59 : decode cX7_bend 59 = .ok (.istore_n 3, 1) := by decide +kernel
theorem dX7_bend_60 : decode cX7_bend 60 = .ok (.aload_n 0, 1) := by decide +kernel
theorem dX7_bend_61 : decode cX7_bend 61 = .ok (.getfield 19, 3) := by decide +kernel
theorem dX7_bend_64 : decode cX7_bend 64 = .ok (.getfield 170, 3) := by decide +kernel
theorem dX7_bend_67 : decode cX7_bend 67 = .ok (.iload_n 1, 1) := by decide +kernel
theorem dX7_bend_68 : decode cX7_bend 68 = .ok (.iload_n 2, 1) := by decide +kernel
theorem dX7_bend_69 : decode cX7_bend 69 = .ok (.iastore, 1) := by decide +kernel
theorem dX7_bend_70 : decode cX7_bend 70 = .ok (.iload_n 3, 1) := by decide +kernel
theorem dX7_bend_71 : decode cX7_bend 71 = .ok (.ireturn, 1) := by decide +kernel
theorem dX7_first_0 : decode cX7_first 0 = .ok (.aload_n 0, 1) := by decide +kernel
theorem dX7_first_1 : decode cX7_first 1 = .ok (.getfield 12, 3) := by decide +kernel
theorem dX7_first_4 : decode cX7_first 4 = .ok (.iload_n 1, 1) := by decide +kernel
theorem dX7_first_5 : decode cX7_first 5 = .ok (.invokevirtual 128, 3) := by decide +kernel
theorem dX7_first_8 : decode cX7_first 8 = .ok (.ifCond .ne 6, 3) := by decide +kernel
theorem dX7_first_11 : decode cX7_first 11 = .ok (.ldc 132, 2) := by decide +kernel
theorem dX7_first_13 : decode cX7_first 13 = .ok (.ireturn, 1) := by decide +kernel
theorem dX7_first_14 : decode cX7_first 14 = .ok (.iload_n 2, 1) := by decide +kernel
theorem dX7_first_15 : decode cX7_first 15 = .ok (.ifCond .lt 8, 3) := by decide +kernel
theorem dX7_first_18 : decode cX7_first 18 = .ok (.iload_n 2, 1) := by decide +kernel
theorem dX7_first_19 : decode cX7_first 19 = .ok (.iconst 1, 1) := by decide +kernel
theorem dX7_first_20 : decode cX7_first 20 = .ok (.if_icmp .le 6, 3) := by decide +kernel
theorem dX7_first_23 : decode cX7_first 23 = .ok (.ldc 80, 2) := by decide +kernel
theorem dX7_first_25 : decode cX7_first 25 = .ok (.ireturn, 1) := by decide +kernel
theorem dX7_first_26 : decode cX7_first 26 = .ok (.aload_n 0, 1) := by decide +kernel
theorem dX7_first_27 : decode cX7_first 27 = .ok (.getfield 28, 3) := by decide +kernel
theorem dX7_first_30 : decode cX7_first 30 = .ok (.iload_n 1, 1) := by decide +kernel
theorem dX7_first_31 : decode cX7_first 31 = .ok (.invokevirtual 198, 3) := by decide +kernel
theorem dX7_first_34 : decode cX7_first 34 = .ok (.istore_n 3, 1) := by decide +kernel
theorem dX7_first_35 : decode cX7_first 35 = .ok (.iload_n 3, 1) := by decide +kernel
theorem dX7_first_36 : decode cX7_first 36 = .ok (.iconst (-1), 1) := by decide +kernel
theorem dX7_first_37 : decode cX7_first 37 = .ok (.if_icmp .eq 7, 3) := by decide +kernel
theorem dX7_first_40 : decode cX7_first 40 = .ok (.iload_n 2, 1) := by decide +kernel
theorem dX7_first_41 : decode cX7_first 41 = .ok (.ifCond .ne 7, 3) := by decide +kernel
theorem dX7_first_44 : decode cX7_first 44 = .ok (.iload_n 3, 1) := by decide +kernel
theorem dX7_first_45 : decode cX7_first 45 = .ok (.goto 12, 3) := by decide +kernel
theorem dX7_first_48 : decode cX7_first 48 = .ok (.aload_n 0, 1) := by decide +kernel
theorem dX7_first_49 : decode cX7_first 49 = .ok (.getfield 28, 3) := by decide +kernel
theorem dX7_first_52 : decode cX7_first 52 = .ok (.iload_n 3, 1) := by decide +kernel
theorem dX7_first_53 : decode cX7_first 53 = .ok (.iload_n 1, 1) := by decide +kernel
theorem dX7_first_54 : decode cX7_first 54 = .ok (.invokevirtual 201, 3) := by decide +kernel
theorem dX7_first_57 : decode cX7_first 57 = .ok (.ireturn, 1) := by decide +kernel
theorem dX7_bow_0 : decode cX7_bow 0 = .ok (.aload_n 0, 1) := by decide +kernel
theorem dX7_bow_1 : decode cX7_bow 1 = .ok (.getfield 12, 3) := by decide +kernel
theorem dX7_bow_4 : decode cX7_bow 4 = .ok (.iload_n 1, 1) := by decide +kernel
theorem dX7_bow_5 : decode cX7_bow 5 = .ok (.invokevirtual 128, 3) := by decide +kernel
theorem dX7_bow_8 : decode cX7_bow 8 = .ok (.ifCond .eq 14, 3) := by decide +kernel
theorem dX7_bow_11 : decode cX7_bow 11 = .ok (.aload_n 0, 1) := by decide +kernel
theorem dX7_bow_12 : decode cX7_bow 12 = .ok (.getfield 28, 3) := by decide +kernel
theorem dX7_bow_15 : decode cX7_bow 15 = .ok (.iload_n 1, 1) := by decide +kernel
theorem dX7_bow_16 : decode cX7_bow 16 = .ok (.invokevirtual 204, 3) := by decide +kernel
theorem dX7_bow_19 : decode cX7_bow 19 = .ok (.goto 5, 3) := by decide +kernel
theorem dX7_bow_22 : decode cX7_bow 22 = .ok (.ldc 132, 2) := by decide +kernel
theorem dX7_bow_24 : decode cX7_bow 24 = .ok (.ireturn, 1) := by decide +kernel
theorem dX7_year_0 : decode cX7_year 0 = .ok (.iload_n 1, 1) := by decide +kernel
theorem dX7_year_1 : decode cX7_year 1 = .ok (.iconst 1, 1) := by decide +kernel
theorem dX7_year_2 : decode cX7_year 2 = .ok (.if_icmp .lt 9, 3) := by decide +kernel
theorem dX7_year_5 : decode cX7_year 5 = .ok (.iload_n 1, 1) := by decide +kernel
theorem dX7_year_6 : decode cX7_year 6 = .ok (.bipush 60, 2) := by decide +kernel
theorem dX7_year_8 : decode cX7_year 8 = .ok (.if_icmp .le 6, 3) := by decide +kernel
theorem dX7_year_11 : decode cX7_year 11 = .ok (.ldc 80, 2) := by decide +kernel
theorem dX7_year_13 : decode cX7_year 13 = .ok (.ireturn, 1) := by decide +kernel
theorem dX7_year_14 : decode cX7_year 14 = .ok (.iconst 0, 1) := by decide +kernel
theorem dX7_year_15 : decode cX7_year 15 = .ok (.istore_n 2, 1) := by decide +kernel
theorem dX7_year_16 : decode cX7_year 16 = .ok (.iload_n 2, 1) := by decide +kernel
theorem dX7_year_17 : decode cX7_year 17 = .ok (.iload_n 1, 1) := by decide +kernel
theorem dX7_year_18 : decode cX7_year 18 = .ok (.if_icmp .ge 16, 3) := by decide +kernel
theorem dX7_year_21 : decode cX7_year 21 = .ok (.aload_n 0, 1) := by decide +kernel
theorem dX7_year_22 : decode cX7_year 22 = .ok (.getfield 28, 3) := by decide +kernel
theorem dX7_year_25 : decode cX7_year 25 = .ok (.invokevirtual 207, 3) := by decide +kernel
theorem dX7_year_28 : decode cX7_year 28 = .ok (.iinc 2 1, 3) := by decide +kernel
theorem dX7_year_31 : decode cX7_year 31 = .ok (.goto (-15), 3) := by decide +kernel
theorem dX7_year_34 : decode cX7_year 34 = .ok (.aload_n 0, 1) := by decide +kernel
theorem dX7_year_35 : decode cX7_year 35 = .ok (.getfield 28, 3) := by decide +kernel
theorem dX7_year_38 : decode cX7_year 38 = .ok (.invokevirtual 210, 3) := by decide +kernel
theorem dX7_year_41 : decode cX7_year 41 = .ok (.ireturn, 1) := by decide +kernel
theorem dX7_come_0 : decode cX7_come 0 = .ok (.aload_n 0, 1) := by decide +kernel
theorem dX7_come_1 : decode cX7_come 1 = .ok (.iload_n 1, 1) := by decide +kernel
theorem dX7_come_2 : decode cX7_come 2 = .ok (.iload_n 2, 1) := by decide +kernel
theorem dX7_come_3 : decode cX7_come 3 = .ok (.iload_n 3, 1) := by decide +kernel
theorem dX7_come_4 : decode cX7_come 4 = .ok (.invokevirtual 179, 3) := by decide +kernel
theorem dX7_come_7 : decode cX7_come 7 = .ok (.ifCond .ne 6, 3) := by decide +kernel
theorem dX7_come_10 : decode cX7_come 10 = .ok (.ldc 132, 2) := by decide +kernel
theorem dX7_come_12 : decode cX7_come 12 = .ok (.ireturn, 1) := by decide +kernel
theorem dX7_come_13 : decode cX7_come 13 = .ok (.aload_n 0, 1) := by decide +kernel
theorem dX7_come_14 : decode cX7_come 14 = .ok (.getfield 19, 3) := by decide +kernel
theorem dX7_come_17 : decode cX7_come 17 = .ok (.iload_n 1, 1) := by decide +kernel
theorem dX7_come_18 : decode cX7_come 18 = .ok (.iload_n 2, 1) := by decide +kernel
theorem dX7_come_19 : decode cX7_come 19 = .ok (.iload_n 3, 1) := by decide +kernel
theorem dX7_come_20 : decode cX7_come 20 = .ok (.invokevirtual 183, 3) := by decide +kernel
theorem dX7_come_23 : decode cX7_come 23 = .ok (.ifCond .ne 6, 3) := by decide +kernel
theorem dX7_come_26 : decode cX7_come 26 = .ok (.ldc 186, 2) := by decide +kernel
theorem dX7_come_28 : decode cX7_come 28 = .ok (.ireturn, 1) := by decide +kernel
theorem dX7_come_29 : decode cX7_come 29 = .ok (.aload_n 0, 1) := by decide +kernel
theorem dX7_come_30 : decode cX7_come 30 = .ok (.getfield 28, 3) := by decide +kernel
theorem dX7_come_33 : decode cX7_come 33 = .ok (.iload_n 1, 1) := by decide +kernel
theorem dX7_come_34 : decode cX7_come 34 = .ok (.iload_n 2, 1) := by decide +kernel
theorem dX7_come_35 : decode cX7_come 35 = .ok (.iload_n 3, 1) := by decide +kernel
theorem dX7_come_36 : decode cX7_come 36 = .ok (.invokevirtual 213, 3) := by decide +kernel
theorem dX7_come_39 : decode cX7_come 39 = .ok (.ireturn, 1) := by decide +kernel
theorem dX7_party_0 : decode cX7_party 0 = .ok (.aload_n 0, 1) := by decide +kernel
theorem dX7_party_1 : decode cX7_party 1 = .ok (.getfield 12, 3) := by decide +kernel
theorem dX7_party_4 : decode cX7_party 4 = .ok (.iload_n 1, 1) := by decide +kernel
theorem dX7_party_5 : decode cX7_party 5 = .ok (.invokevirtual 128, 3) := by decide +kernel
theorem dX7_party_8 : decode cX7_party 8 = .ok (.ifCond .eq 30, 3) := by decide +kernel
theorem dX7_party_11 : decode cX7_party 11 = .ok (.aload_n 0, 1) := by decide +kernel
theorem dX7_party_12 : decode cX7_party 12 = .ok (.getfield 12, 3) := by decide +kernel
theorem dX7_party_15 : decode cX7_party 15 = .ok (.iload_n 2, 1) := by decide +kernel
theorem dX7_party_16 : decode cX7_party 16 = .ok (.invokevirtual 217, 3) := by decide +kernel
theorem dX7_party_19 : decode cX7_party 19 = .ok (.ifCond .eq 19, 3) := by decide +kernel
theorem dX7_party_22 : decode cX7_party 22 = .ok (.iload_n 3, 1) := by decide +kernel
theorem dX7_party_23 : decode cX7_party 23 = .ok (.iconst (-1), 1) := by decide +kernel
theorem dX7_party_24 : decode cX7_party 24 = .ok (.if_icmp .eq 17, 3) := by decide +kernel
theorem dX7_party_27 : decode cX7_party 27 = .ok (.aload_n 0, 1) := by decide +kernel
theorem dX7_party_28 : decode cX7_party 28 = .ok (.getfield 12, 3) := by decide +kernel
theorem dX7_party_31 : decode cX7_party 31 = .ok (.iload_n 3, 1) := by decide +kernel
theorem dX7_party_32 : decode cX7_party 32 = .ok (.invokevirtual 148, 3) := by decide +kernel
theorem dX7_party_35 : decode cX7_party 35 = .ok (.ifCond .ne 6, 3) := by decide +kernel
theorem dX7_party_38 : decode cX7_party 38 = .ok (.ldc 132, 2) := by decide +kernel
theorem dX7_party_40 : decode cX7_party 40 = .ok (.ireturn, 1) := by decide +kernel
theorem dX7_party_41 : decode cX7_party 41 = .ok (.aload_n 0, 1) := by decide +kernel
theorem dX7_party_42 : decode cX7_party 42 = .ok (.getfield 48, 3) := by decide +kernel
theorem dX7_party_45 : decode cX7_party 45 = .ok (.iload_n 1, 1) := by decide +kernel
theorem dX7_party_46 : decode cX7_party 46 = .ok (.iload_n 2, 1) := by decide +kernel
theorem dX7_party_47 : decode cX7_party 47 = .ok (.invokevirtual 220, 3) := by decide +kernel
theorem dX7_party_50 : decode cX7_party 50 = .ok (.ifCond .ne 5, 3) := by decide +kernel
theorem dX7_party_53 : decode cX7_party 53 = .ok (.iconst (-1), 1) := by decide +kernel
theorem dX7_party_54 : decode cX7_party 54 = .ok (.ireturn, 1) := by decide +kernel
theorem dX7_party_55 : decode cX7_party 55 = .ok (.iload_n 3, 1) := by decide +kernel
theorem dX7_party_56 : decode cX7_party 56 = .ok (.iconst (-1), 1) := by decide +kernel
theorem dX7_party_57 : decode cX7_party 57 = .ok (.if_icmp .ne 11, 3) := by decide +kernel
theorem dX7_party_60 : decode cX7_party 60 = .ok (.aload_n 0, 1) := by decide +kernel
theorem dX7_party_61 : decode cX7_party 61 = .ok (.getfield 48, 3) := by decide +kernel
theorem dX7_party_64 : decode cX7_party 64 = .ok (.invokevirtual 223, 3) := by decide +kernel
theorem dX7_party_67 : decode cX7_party 67 = .ok (.ireturn, 1) := by decide +kernel
theorem dX7_party_68 : decode cX7_party 68 = .ok (.iload_n 2, 1) := by decide +kernel
theorem dX7_party_69 : decode cX7_party 69 = .ok (.iload_n 3, 1) := by decide +kernel
theorem dX7_party_70 : decode cX7_party 70 = .ok (.ishr, 1) := by decide +kernel
theorem dX7_party_71 : decode cX7_party 71 = .ok (.iconst 1, 1) := by decide +kernel
theorem dX7_party_72 : decode cX7_party 72 = .ok (.iand, 1) := by decide +kernel
theorem dX7_party_73 : decode cX7_party 73 = .ok (.ifCond .ne 7, 3) := by decide +kernel
theorem dX7_party_76 : decode cX7_party 76 = .ok (.iconst (-1), 1) := by decide +kernel
theorem dX7_party_77 : decode cX7_party 77 = .ok (.goto 11, 3) := by decide +kernel
theorem dX7_party_80 : decode cX7_party 80 = .ok (.aload_n 0, 1) := by decide +kernel
theorem dX7_party_81 : decode cX7_party 81 = .ok (.getfield 48, 3) := by decide +kernel
theorem dX7_party_84 : decode cX7_party 84 = .ok (.iload_n 3, 1) := by decide +kernel
theorem dX7_party_85 : decode cX7_party 85 = .ok (.invokevirtual 226, 3) := by decide +kernel
theorem dX7_party_88 : decode cX7_party 88 = .ok (.ireturn, 1) := by decide +kernel
theorem dX7_feast_0 : decode cX7_feast 0 = .ok (.aload_n 0, 1) := by decide +kernel
theorem dX7_feast_1 : decode cX7_feast 1 = .ok (.getfield 12, 3) := by decide +kernel
theorem dX7_feast_4 : decode cX7_feast 4 = .ok (.iload_n 1, 1) := by decide +kernel
theorem dX7_feast_5 : decode cX7_feast 5 = .ok (.invokevirtual 217, 3) := by decide +kernel
theorem dX7_feast_8 : decode cX7_feast 8 = .ok (.ifCond .eq 25, 3) := by decide +kernel
theorem dX7_feast_11 : decode cX7_feast 11 = .ok (.iload_n 2, 1) := by decide +kernel
theorem dX7_feast_12 : decode cX7_feast 12 = .ok (.iconst (-1), 1) := by decide +kernel
theorem dX7_feast_13 : decode cX7_feast 13 = .ok (.if_icmp .eq 23, 3) := by decide +kernel
theorem dX7_feast_16 : decode cX7_feast 16 = .ok (.iload_n 2, 1) := by decide +kernel
theorem dX7_feast_17 : decode cX7_feast 17 = .ok (.bipush (-2), 2) := by decide +kernel
theorem dX7_feast_19 : decode cX7_feast 19 = .ok (.if_icmp .eq 17, 3) := by decide +kernel
theorem dX7_feast_22 : decode cX7_feast 22 = .ok (.aload_n 0, 1) := by decide +kernel
theorem dX7_feast_23 : decode cX7_feast 23 = .ok (.getfield 12, 3) := by decide +kernel
theorem dX7_feast_26 : decode cX7_feast 26 = .ok (.iload_n 2, 1) := by decide +kernel
theorem dX7_feast_27 : decode cX7_feast 27 = .ok (.invokevirtual 148, 3) := by decide +kernel
theorem dX7_feast_30 : decode cX7_feast 30 = .ok (.ifCond .ne 6, 3) := by decide +kernel
theorem dX7_feast_33 : decode cX7_feast 33 = .ok (.ldc 132, 2) := by decide +kernel
theorem dX7_feast_35 : decode cX7_feast 35 = .ok (.ireturn, 1) := by decide +kernel
theorem dX7_feast_36 : decode cX7_feast 36 = .ok (.aload_n 0, 1) := by decide +kernel
theorem dX7_feast_37 : decode cX7_feast 37 = .ok (.getfield 57, 3) := by decide +kernel
theorem dX7_feast_40 : decode cX7_feast 40 = .ok (.iload_n 1, 1) := by decide +kernel
theorem dX7_feast_41 : decode cX7_feast 41 = .ok (.invokevirtual 228, 3) := by decide +kernel
theorem dX7_feast_44 : decode cX7_feast 44 = .ok (.ifCond .ne 5, 3) := by decide +kernel
theorem dX7_feast_47 : decode cX7_feast 47 = .ok (.iconst (-1), 1) := by decide +kernel
theorem dX7_feast_48 : decode cX7_feast 48 = .ok (.ireturn, 1) := by decide +kernel
theorem dX7_feast_49 : decode cX7_feast 49 = .ok (.iload_n 2, 1) := by decide +kernel
theorem dX7_feast_50 : decode cX7_feast 50 = .ok (.iconst (-1), 1) := by decide +kernel
theorem dX7_feast_51 : decode cX7_feast 51 = .ok (.if_icmp .ne 11, 3) := by decide +kernel
theorem dX7_feast_54 : decode cX7_feast 54 = .ok (.aload_n 0, 1) := by decide +kernel
theorem dX7_feast_55 : decode cX7_feast 55 = .ok (.getfield 57, 3) := by decide +kernel
theorem dX7_feast_58 : decode cX7_feast 58 = .ok (.getfield 231, 3) := by decide +kernel
theorem dX7_feast_61 : decode cX7_feast 61 = .ok (.ireturn, 1) := by decide +kernel
theorem dX7_feast_62 : decode cX7_feast 62 = .ok (.iload_n 2, 1) := by decide +kernel
theorem dX7_feast_63 : decode cX7_feast 63 = .ok (.bipush (-2), 2) := by decide +kernel
theorem dX7_feast_65 : decode cX7_feast 65 = .ok (.if_icmp .ne 13, 3) := by decide +kernel
theorem dX7_feast_68 : decode cX7_feast 68 = .ok (.aload_n 0, 1) := by decide +kernel
theorem dX7_feast_69 : decode cX7_feast 69 = .ok (.getfield 57, 3) := by decide +kernel
theorem dX7_feast_72 : decode cX7_feast 72 = .ok (.getfield 234, 3) := by decide +kernel
theorem dX7_feast_75 : decode cX7_feast 75 = .ok (.goto 11, 3) := by decide +kernel
theorem dX7_feast_78 : decode cX7_feast 78 = .ok (.aload_n 0, 1) := by decide +kernel
theorem dX7_feast_79 : decode cX7_feast 79 = .ok (.getfield 57, 3) := by decide +kernel
theorem dX7_feast_82 : decode cX7_feast 82 = .ok (.iload_n 2, 1) := by decide +kernel
theorem dX7_feast_83 : decode cX7_feast 83 = .ok (.invokevirtual 237, 3) := by decide +kernel
theorem dX7_feast_86 : decode cX7_feast 86 = .ok (.ireturn, 1) := by decide +kernel
theorem dX7_cuts_0 : decode cX7_cuts 0 = .ok (.aload_n 0, 1) := by decide +kernel
theorem dX7_cuts_1 : decode cX7_cuts 1 = .ok (.getfield 12, 3) := by decide +kernel
theorem dX7_cuts_4 : decode cX7_cuts 4 = .ok (.iload_n 1, 1) := by decide +kernel
theorem dX7_cuts_5 : decode cX7_cuts 5 = .ok (.invokevirtual 128, 3) := by decide +kernel
theorem dX7_cuts_8 : decode cX7_cuts 8 = .ok (.ifCond .eq 14, 3) := by decide +kernel
theorem dX7_cuts_11 : decode cX7_cuts 11 = .ok (.aload_n 0, 1) := by decide +kernel
theorem dX7_cuts_12 : decode cX7_cuts 12 = .ok (.getfield 12, 3) := by decide +kernel
theorem dX7_cuts_15 : decode cX7_cuts 15 = .ok (.iload_n 2, 1) := by decide +kernel
theorem dX7_cuts_16 : decode cX7_cuts 16 = .ok (.invokevirtual 217, 3) := by decide +kernel
theorem dX7_cuts_19 : decode cX7_cuts 19 = .ok (.ifCond .ne 6, 3) := by decide +kernel
theorem dX7_cuts_22 : decode cX7_cuts 22 = .ok (.ldc 132, 2) := by decide +kernel
theorem dX7_cuts_24 : decode cX7_cuts 24 = .ok (.ireturn, 1) := by decide +kernel
theorem dX7_cuts_25 : decode cX7_cuts 25 = .ok (.iload_n 2, 1) := by decide +kernel
theorem dX7_cuts_26 : decode cX7_cuts 26 = .ok (.invokestatic 240, 3) := by decide +kernel
theorem dX7_cuts_29 : decode cX7_cuts 29 = .ok (.aload_n 0, 1) := by decide +kernel
theorem dX7_cuts_30 : decode cX7_cuts 30 = .ok (.getfield 12, 3) := by decide +kernel
theorem dX7_cuts_33 : decode cX7_cuts 33 = .ok (.iload_n 1, 1) := by decide +kernel
theorem dX7_cuts_34 : decode cX7_cuts 34 = .ok (.invokevirtual 133, 3) := by decide +kernel
theorem dX7_cuts_37 : decode cX7_cuts 37 = .ok (.if_icmp .le 5, 3) := by decide +kernel
theorem dX7_cuts_40 : decode cX7_cuts 40 = .ok (.iconst (-1), 1) := by decide +kernel
theorem dX7_cuts_41 : decode cX7_cuts 41 = .ok (.ireturn, 1) := by decide +kernel
theorem dX7_cuts_42 : decode cX7_cuts 42 = .ok (.aload_n 0, 1) := by decide +kernel
theorem dX7_cuts_43 : decode cX7_cuts 43 = .ok (.iload_n 1, 1) := by decide +kernel
theorem dX7_cuts_44 : decode cX7_cuts 44 = .ok (.iload_n 2, 1) := by decide +kernel
theorem dX7_cuts_45 : decode cX7_cuts 45 = .ok (.invokevirtual 245, 3) := by decide +kernel
theorem dX7_cuts_48 : decode cX7_cuts 48 = .ok (.aload_n 0, 1) := by decide +kernel
theorem dX7_cuts_49 : decode cX7_cuts 49 = .ok (.getfield 35, 3) := by decide +kernel
theorem dX7_cuts_52 : decode cX7_cuts 52 = .ok (.iload_n 1, 1) := by decide +kernel
theorem dX7_cuts_53 : decode cX7_cuts 53 = .ok (.invokevirtual 249, 3) := by decide +kernel
theorem dX7_cuts_56 : decode cX7_cuts 56 = .ok (.ireturn, 1) := by decide +kernel
theorem dX7_till_0 : decode cX7_till 0 = .ok (.aload_n 0, 1) := by decide +kernel
theorem dX7_till_1 : decode cX7_till 1 = .ok (.getfield 32, 3) := by decide +kernel
theorem dX7_till_4 : decode cX7_till 4 = .ok (.aload_n 0, 1) := by decide +kernel
theorem dX7_till_5 : decode cX7_till 5 = .ok (.getfield 19, 3) := by decide +kernel
theorem dX7_till_8 : decode cX7_till 8 = .ok (.invokevirtual 252, 3) := by decide +kernel
theorem dX7_till_11 : decode cX7_till 11 = .ok (.iconst 0, 1) := by decide +kernel
theorem dX7_till_12 : decode cX7_till 12 = .ok (.istore_n 1, 1) := by decide +kernel
theorem dX7_till_13 : decode cX7_till 13 = .ok (.iload_n 1, 1) := by decide +kernel
theorem dX7_till_14 : decode cX7_till 14 = .ok (.bipush 60, 2) := by decide +kernel
theorem dX7_till_16 : decode cX7_till 16 = .ok (.if_icmp .ge 28, 3) := by decide +kernel
theorem dX7_till_19 : decode cX7_till 19 = .ok (.aload_n 0, 1) := by decide +kernel
theorem dX7_till_20 : decode cX7_till 20 = .ok (.getfield 35, 3) := by decide +kernel
theorem dX7_till_23 : decode cX7_till 23 = .ok (.invokevirtual 210, 3) := by decide +kernel
theorem dX7_till_26 : decode cX7_till 26 = .ok (.ifCond .eq 5, 3) := by decide +kernel
theorem dX7_till_29 : decode cX7_till 29 = .ok (.iload_n 1, 1) := by decide +kernel
theorem dX7_till_30 : decode cX7_till 30 = .ok (.ireturn, 1) := by decide +kernel
theorem dX7_till_31 : decode cX7_till 31 = .ok (.aload_n 0, 1) := by decide +kernel
theorem dX7_till_32 : decode cX7_till 32 = .ok (.getfield 35, 3) := by decide +kernel
theorem dX7_till_35 : decode cX7_till 35 = .ok (.invokevirtual 207, 3) := by decide +kernel
theorem dX7_till_38 : decode cX7_till 38 = .ok (.iinc 1 1, 3) := by decide +kernel
theorem dX7_till_41 : decode cX7_till 41 = .ok (.goto (-28), 3) := by decide +kernel
theorem dX7_till_44 : decode cX7_till 44 = .ok (.bipush 60, 2) := by decide +kernel
theorem dX7_till_46 : decode cX7_till 46 = .ok (.ireturn, 1) := by decide +kernel
theorem dX7_seen_0 : decode cX7_seen 0 = .ok (.aload_n 0, 1) := by decide +kernel
theorem dX7_seen_1 : decode cX7_seen 1 = .ok (.getfield 12, 3) := by decide +kernel
theorem dX7_seen_4 : decode cX7_seen 4 = .ok (.iload_n 1, 1) := by decide +kernel
theorem dX7_seen_5 : decode cX7_seen 5 = .ok (.invokevirtual 128, 3) := by decide +kernel
theorem dX7_seen_8 : decode cX7_seen 8 = .ok (.ifCond .ne 6, 3) := by decide +kernel
theorem dX7_seen_11 : decode cX7_seen 11 = .ok (.ldc 132, 2) := by decide +kernel
theorem dX7_seen_13 : decode cX7_seen 13 = .ok (.ireturn, 1) := by decide +kernel
theorem dX7_seen_14 : decode cX7_seen 14 = .ok (.iload_n 2, 1) := by decide +kernel
theorem dX7_seen_15 : decode cX7_seen 15 = .ok (.ifCond .lt 8, 3) := by decide +kernel
theorem dX7_seen_18 : decode cX7_seen 18 = .ok (.iload_n 2, 1) := by decide +kernel
theorem dX7_seen_19 : decode cX7_seen 19 = .ok (.iconst 1, 1) := by decide +kernel
theorem dX7_seen_20 : decode cX7_seen 20 = .ok (.if_icmp .le 6, 3) := by decide +kernel
theorem dX7_seen_23 : decode cX7_seen 23 = .ok (.ldc 80, 2) := by decide +kernel
theorem dX7_seen_25 : decode cX7_seen 25 = .ok (.ireturn, 1) := by decide +kernel
theorem dX7_seen_26 : decode cX7_seen 26 = .ok (.aload_n 0, 1) := by decide +kernel
theorem dX7_seen_27 : decode cX7_seen 27 = .ok (.getfield 28, 3) := by decide +kernel
theorem dX7_seen_30 : decode cX7_seen 30 = .ok (.iload_n 1, 1) := by decide +kernel
theorem dX7_seen_31 : decode cX7_seen 31 = .ok (.invokevirtual 198, 3) := by decide +kernel
theorem dX7_seen_34 : decode cX7_seen 34 = .ok (.iconst (-1), 1) := by decide +kernel
theorem dX7_seen_35 : decode cX7_seen 35 = .ok (.if_icmp .ne 5, 3) := by decide +kernel
theorem dX7_seen_38 : decode cX7_seen 38 = .ok (.iconst 0, 1) := by decide +kernel
theorem dX7_seen_39 : decode cX7_seen 39 = .ok (.ireturn, 1) := by decide +kernel
theorem dX7_seen_40 : decode cX7_seen 40 = .ok (.aload_n 0, 1) := by decide +kernel
theorem dX7_seen_41 : decode cX7_seen 41 = .ok (.getfield 32, 3) := by decide +kernel
theorem dX7_seen_44 : decode cX7_seen 44 = .ok (.aload_n 0, 1) := by decide +kernel
theorem dX7_seen_45 : decode cX7_seen 45 = .ok (.getfield 19, 3) := by decide +kernel
theorem dX7_seen_48 : decode cX7_seen 48 = .ok (.invokevirtual 252, 3) := by decide +kernel
theorem dX7_seen_51 : decode cX7_seen 51 = .ok (.iload_n 2, 1) := by decide +kernel
theorem dX7_seen_52 : decode cX7_seen 52 = .ok (.ifCond .ne 11, 3) := by decide +kernel
theorem dX7_seen_55 : decode cX7_seen 55 = .ok (.aload_n 0, 1) := by decide +kernel
theorem dX7_seen_56 : decode cX7_seen 56 = .ok (.iload_n 1, 1) := by decide +kernel
theorem dX7_seen_57 : decode cX7_seen 57 = .ok (.invokevirtual 255, 3) := by decide +kernel
theorem dX7_seen_60 : decode cX7_seen 60 = .ok (.goto 8, 3) := by decide +kernel
theorem dX7_seen_63 : decode cX7_seen 63 = .ok (.aload_n 0, 1) := by decide +kernel
theorem dX7_seen_64 : decode cX7_seen 64 = .ok (.iload_n 1, 1) := by decide +kernel
theorem dX7_seen_65 : decode cX7_seen 65 = .ok (.invokevirtual 258, 3) := by decide +kernel
theorem dX7_seen_68 : decode cX7_seen 68 = .ok (.ireturn, 1) := by decide +kernel
theorem dX7_write_0 : decode cX7_write 0 = .ok (.aload_n 0, 1) := by decide +kernel
theorem dX7_write_1 : decode cX7_write 1 = .ok (.iload_n 1, 1) := by decide +kernel
theorem dX7_write_2 : decode cX7_write 2 = .ok (.iload_n 2, 1) := by decide +kernel
theorem dX7_write_3 : decode cX7_write 3 = .ok (.iload_n 3, 1) := by decide +kernel
theorem dX7_write_4 : decode cX7_write 4 = .ok (.invokevirtual 179, 3) := by decide +kernel
theorem dX7_write_7 : decode cX7_write 7 = .ok (.ifCond .ne 6, 3) := by decide +kernel
theorem dX7_write_10 : decode cX7_write 10 = .ok (.ldc 132, 2) := by decide +kernel
theorem dX7_write_12 : decode cX7_write 12 = .ok (.ireturn, 1) := by decide +kernel
theorem dX7_write_13 : decode cX7_write 13 = .ok (.aload_n 0, 1) := by decide +kernel
theorem dX7_write_14 : decode cX7_write 14 = .ok (.getfield 64, 3) := by decide +kernel
theorem dX7_write_17 : decode cX7_write 17 = .ok (.getfield 109, 3) := by decide +kernel
theorem dX7_write_20 : decode cX7_write 20 = .ok (.bipush 20, 2) := by decide +kernel
theorem dX7_write_22 : decode cX7_write 22 = .ok (.if_icmp .lt 6, 3) := by decide +kernel
theorem dX7_write_25 : decode cX7_write 25 = .ok (.ldc 84, 2) := by decide +kernel
theorem dX7_write_27 : decode cX7_write 27 = .ok (.ireturn, 1) := by decide +kernel
theorem dX7_write_28 : decode cX7_write 28 = .ok (.aload_n 0, 1) := by decide +kernel
theorem dX7_write_29 : decode cX7_write 29 = .ok (.getfield 64, 3) := by decide +kernel
theorem dX7_write_32 : decode cX7_write 32 = .ok (.iload_n 1, 1) := by decide +kernel
theorem dX7_write_33 : decode cX7_write 33 = .ok (.iload_n 2, 1) := by decide +kernel
theorem dX7_write_34 : decode cX7_write 34 = .ok (.iload_n 3, 1) := by decide +kernel
theorem dX7_write_35 : decode cX7_write 35 = .ok (.invokevirtual 261, 3) := by decide +kernel
theorem dX7_write_38 : decode cX7_write 38 = .ok (.aload_n 0, 1) := by decide +kernel
theorem dX7_write_39 : decode cX7_write 39 = .ok (.getfield 64, 3) := by decide +kernel
theorem dX7_write_42 : decode cX7_write 42 = .ok (.getfield 109, 3) := by decide +kernel
theorem dX7_write_45 : decode cX7_write 45 = .ok (.ireturn, 1) := by decide +kernel
theorem dX7_tear_0 : decode cX7_tear 0 = .ok (.aload_n 0, 1) := by decide +kernel
theorem dX7_tear_1 : decode cX7_tear 1 = .ok (.getfield 64, 3) := by decide +kernel
theorem dX7_tear_4 : decode cX7_tear 4 = .ok (.getfield 109, 3) := by decide +kernel
theorem dX7_tear_7 : decode cX7_tear 7 = .ok (.istore_n 1, 1) := by decide +kernel
theorem dX7_tear_8 : decode cX7_tear 8 = .ok (.aload_n 0, 1) := by decide +kernel
theorem dX7_tear_9 : decode cX7_tear 9 = .ok (.getfield 64, 3) := by decide +kernel
theorem dX7_tear_12 : decode cX7_tear 12 = .ok (.iconst 0, 1) := by decide +kernel
theorem dX7_tear_13 : decode cX7_tear 13 = .ok (.putfield 109, 3) := by decide +kernel
theorem dX7_tear_16 : decode cX7_tear 16 = .ok (.iload_n 1, 1) := by decide +kernel
theorem dX7_tear_17 : decode cX7_tear 17 = .ok (.ireturn, 1) := by decide +kernel
theorem dX7_judge_0 : decode cX7_judge 0 = .ok (.iload_n 1, 1) := by decide +kernel
theorem dX7_judge_1 : decode cX7_judge 1 = .ok (.ifCond .lt 8, 3) := by decide +kernel
theorem dX7_judge_4 : decode cX7_judge 4 = .ok (.iload_n 1, 1) := by decide +kernel
theorem dX7_judge_5 : decode cX7_judge 5 = .ok (.iconst 1, 1) := by decide +kernel
theorem dX7_judge_6 : decode cX7_judge 6 = .ok (.if_icmp .le 6, 3) := by decide +kernel
theorem dX7_judge_9 : decode cX7_judge 9 = .ok (.ldc 80, 2) := by decide +kernel
theorem dX7_judge_11 : decode cX7_judge 11 = .ok (.ireturn, 1) := by decide +kernel
theorem dX7_judge_12 : decode cX7_judge 12 = .ok (.aload_n 0, 1) := by decide +kernel
theorem dX7_judge_13 : decode cX7_judge 13 = .ok (.getfield 32, 3) := by decide +kernel
theorem dX7_judge_16 : decode cX7_judge 16 = .ok (.aload_n 0, 1) := by decide +kernel
theorem dX7_judge_17 : decode cX7_judge 17 = .ok (.getfield 19, 3) := by decide +kernel
theorem dX7_judge_20 : decode cX7_judge 20 = .ok (.invokevirtual 252, 3) := by decide +kernel
theorem dX7_judge_23 : decode cX7_judge 23 = .ok (.aload_n 0, 1) := by decide +kernel
theorem dX7_judge_24 : decode cX7_judge 24 = .ok (.getfield 32, 3) := by decide +kernel
theorem dX7_judge_27 : decode cX7_judge 27 = .ok (.invokevirtual 264, 3) := by decide +kernel
theorem dX7_judge_30 : decode cX7_judge 30 = .ok (.iconst 0, 1) := by decide +kernel
theorem dX7_judge_31 : decode cX7_judge 31 = .ok (.istore_n 2, 1) := by decide +kernel
theorem dX7_judge_32 : decode cX7_judge 32 = .ok (.iconst 0, 1) := by decide +kernel
theorem dX7_judge_33 : decode cX7_judge 33 = .ok (.istore_n 3, 1) := by decide +kernel
theorem dX7_judge_34 : decode cX7_judge 34 = .ok (.iload_n 3, 1) := by decide +kernel
theorem dX7_judge_35 : decode cX7_judge 35 = .ok (.aload_n 0, 1) := by decide +kernel
theorem dX7_judge_36 : decode cX7_judge 36 = .ok (.getfield 64, 3) := by decide +kernel
theorem dX7_judge_39 : decode cX7_judge 39 = .ok (.getfield 109, 3) := by decide +kernel
theorem dX7_judge_42 : decode cX7_judge 42 = .ok (.if_icmp .ge 99, 3) := by decide +kernel
theorem dX7_judge_45 : decode cX7_judge 45 = .ok (.iload_n 3, 1) := by decide +kernel
theorem dX7_judge_46 : decode cX7_judge 46 = .ok (.bipush 20, 2) := by decide +kernel
theorem dX7_judge_48 : decode cX7_judge 48 = .ok (.if_icmp .ge 93, 3) := by decide +kernel
theorem dX7_judge_51 : decode cX7_judge 51 = .ok (.aload_n 0, 1) := by decide +kernel
theorem dX7_judge_52 : decode cX7_judge 52 = .ok (.getfield 32, 3) := by decide +kernel
theorem dX7_judge_55 : decode cX7_judge 55 = .ok (.aload_n 0, 1) := by decide +kernel
theorem dX7_judge_56 : decode cX7_judge 56 = .ok (.getfield 64, 3) := by decide +kernel
theorem dX7_judge_59 : decode cX7_judge 59 = .ok (.getfield 267, 3) := by decide +kernel
theorem dX7_judge_62 : decode cX7_judge 62 = .ok (.iload_n 3, 1) := by decide +kernel
theorem dX7_judge_63 : decode cX7_judge 63 = .ok (.iaload, 1) := by decide +kernel
theorem dX7_judge_64 : decode cX7_judge 64 = .ok (.aload_n 0, 1) := by decide +kernel
theorem dX7_judge_65 : decode cX7_judge 65 = .ok (.getfield 64, 3) := by decide +kernel
theorem dX7_judge_68 : decode cX7_judge 68 = .ok (.getfield 270, 3) := by decide +kernel
theorem dX7_judge_71 : decode cX7_judge 71 = .ok (.iload_n 3, 1) := by decide +kernel
theorem dX7_judge_72 : decode cX7_judge 72 = .ok (.iaload, 1) := by decide +kernel
theorem dX7_judge_73 : decode cX7_judge 73 = .ok (.aload_n 0, 1) := by decide +kernel
theorem dX7_judge_74 : decode cX7_judge 74 = .ok (.getfield 64, 3) := by decide +kernel
theorem dX7_judge_77 : decode cX7_judge 77 = .ok (.getfield 273, 3) := by decide +kernel
theorem dX7_judge_80 : decode cX7_judge 80 = .ok (.iload_n 3, 1) := by decide +kernel
theorem dX7_judge_81 : decode cX7_judge 81 = .ok (.iaload, 1) := by decide +kernel
theorem dX7_judge_82 : decode cX7_judge 82 = .ok (.invokevirtual 183, 3) := by decide +kernel
theorem dX7_judge_85 : decode cX7_judge 85 = .ok (.ifCond .ne 13, 3) := by decide +kernel
theorem dX7_judge_88 : decode cX7_judge 88 = .ok (.iload_n 1, 1) := by decide +kernel
theorem dX7_judge_89 : decode cX7_judge 89 = .ok (.ifCond .ne 7, 3) := by decide +kernel
theorem dX7_judge_92 : decode cX7_judge 92 = .ok (.iload_n 3, 1) := by decide +kernel
theorem dX7_judge_93 : decode cX7_judge 93 = .ok (.goto 4, 3) := by decide +kernel
theorem dX7_judge_96 : decode cX7_judge 96 = .ok (.iload_n 2, 1) := by decide +kernel
theorem dX7_judge_97 : decode cX7_judge 97 = .ok (.ireturn, 1) := by decide +kernel
theorem dX7_judge_98 : decode cX7_judge 98 = .ok (.iload_n 2, 1) := by decide +kernel
theorem dX7_judge_99 : decode cX7_judge 99 = .ok (.aload_n 0, 1) := by decide +kernel
theorem dX7_judge_100 : decode cX7_judge 100 = .ok (.getfield 35, 3) := by decide +kernel
theorem dX7_judge_103 : decode cX7_judge 103 = .ok (.aload_n 0, 1) := by decide +kernel
theorem dX7_judge_104 : decode cX7_judge 104 = .ok (.getfield 64, 3) := by decide +kernel
theorem dX7_judge_107 : decode cX7_judge 107 = .ok (.getfield 267, 3) := by decide +kernel
theorem dX7_judge_110 : decode cX7_judge 110 = .ok (.iload_n 3, 1) := by decide +kernel
theorem dX7_judge_111 : decode cX7_judge 111 = .ok (.iaload, 1) := by decide +kernel
theorem dX7_judge_112 : decode cX7_judge 112 = .ok (.aload_n 0, 1) := by decide +kernel
theorem dX7_judge_113 : decode cX7_judge 113 = .ok (.getfield 64, 3) := by decide +kernel
theorem dX7_judge_116 : decode cX7_judge 116 = .ok (.getfield 270, 3) := by decide +kernel
theorem dX7_judge_119 : decode cX7_judge 119 = .ok (.iload_n 3, 1) := by decide +kernel
theorem dX7_judge_120 : decode cX7_judge 120 = .ok (.iaload, 1) := by decide +kernel
theorem dX7_judge_121 : decode cX7_judge 121 = .ok (.aload_n 0, 1) := by decide +kernel
theorem dX7_judge_122 : decode cX7_judge 122 = .ok (.getfield 64, 3) := by decide +kernel
theorem dX7_judge_125 : decode cX7_judge 125 = .ok (.getfield 273, 3) := by decide +kernel
theorem dX7_judge_128 : decode cX7_judge 128 = .ok (.iload_n 3, 1) := by decide +kernel
theorem dX7_judge_129 : decode cX7_judge 129 = .ok (.iaload, 1) := by decide +kernel
theorem dX7_judge_130 : decode cX7_judge 130 = .ok (.invokevirtual 213, 3) := by decide +kernel
theorem dX7_judge_133 : decode cX7_judge 133 = .ok (.iadd, 1) := by decide +kernel
theorem dX7_judge_134 : decode cX7_judge 134 = .ok (.istore_n 2, 1) := by decide +kernel
theorem dX7_judge_135 : decode cX7_judge 135 = .ok (.iinc 3 1, 3) := by decide +kernel
theorem dX7_judge_138 : decode cX7_judge 138 = .ok (.goto (-104), 3) := by decide +kernel
theorem dX7_judge_141 : decode cX7_judge 141 = .ok (.iload_n 1, 1) := by decide +kernel
theorem dX7_judge_142 : decode cX7_judge 142 = .ok (.ifCond .ne 7, 3) := by decide +kernel
theorem dX7_judge_145 : decode cX7_judge 145 = .ok (.iconst (-1), 1) := by decide +kernel
theorem dX7_judge_146 : decode cX7_judge 146 = .ok (.goto 4, 3) := by decide +kernel
theorem dX7_judge_149 : decode cX7_judge 149 = .ok (.iload_n 2, 1) := by decide +kernel
theorem dX7_judge_150 : decode cX7_judge 150 = .ok (.ireturn, 1) := by decide +kernel
theorem dX7_drift_0 : decode cX7_drift 0 = .ok (.iload_n 1, 1) := by decide +kernel
theorem dX7_drift_1 : decode cX7_drift 1 = .ok (.iconst 1, 1) := by decide +kernel
theorem dX7_drift_2 : decode cX7_drift 2 = .ok (.if_icmp .lt 9, 3) := by decide +kernel
theorem dX7_drift_5 : decode cX7_drift 5 = .ok (.iload_n 1, 1) := by decide +kernel
theorem dX7_drift_6 : decode cX7_drift 6 = .ok (.bipush 99, 2) := by decide +kernel
theorem dX7_drift_8 : decode cX7_drift 8 = .ok (.if_icmp .le 6, 3) := by decide +kernel
theorem dX7_drift_11 : decode cX7_drift 11 = .ok (.ldc 80, 2) := by decide +kernel
theorem dX7_drift_13 : decode cX7_drift 13 = .ok (.ireturn, 1) := by decide +kernel
theorem dX7_drift_14 : decode cX7_drift 14 = .ok (.aload_n 0, 1) := by decide +kernel
theorem dX7_drift_15 : decode cX7_drift 15 = .ok (.getfield 12, 3) := by decide +kernel
theorem dX7_drift_18 : decode cX7_drift 18 = .ok (.getfield 112, 3) := by decide +kernel
theorem dX7_drift_21 : decode cX7_drift 21 = .ok (.ifCond .eq 13, 3) := by decide +kernel
theorem dX7_drift_24 : decode cX7_drift 24 = .ok (.aload_n 0, 1) := by decide +kernel
theorem dX7_drift_25 : decode cX7_drift 25 = .ok (.getfield 12, 3) := by decide +kernel
theorem dX7_drift_28 : decode cX7_drift 28 = .ok (.getfield 115, 3) := by decide +kernel
theorem dX7_drift_31 : decode cX7_drift 31 = .ok (.ifCond .ne 6, 3) := by decide +kernel
theorem dX7_drift_34 : decode cX7_drift 34 = .ok (.ldc 186, 2) := by decide +kernel
theorem dX7_drift_36 : decode cX7_drift 36 = .ok (.ireturn, 1) := by decide +kernel
theorem dX7_drift_37 : decode cX7_drift 37 = .ok (.iconst 0, 1) := by decide +kernel
theorem dX7_drift_38 : decode cX7_drift 38 = .ok (.istore_n 2, 1) := by decide +kernel
theorem dX7_drift_39 : decode cX7_drift 39 = .ok (.iconst 0, 1) := by decide +kernel
theorem dX7_drift_40 : decode cX7_drift 40 = .ok (.istore_n 3, 1) := by decide +kernel
theorem dX7_drift_41 : decode cX7_drift 41 = .ok (.iload_n 3, 1) := by decide +kernel
theorem dX7_drift_42 : decode cX7_drift 42 = .ok (.iload_n 1, 1) := by decide +kernel
theorem dX7_drift_43 : decode cX7_drift 43 = .ok (.if_icmp .ge 19, 3) := by decide +kernel
theorem dX7_drift_46 : decode cX7_drift 46 = .ok (.iload_n 2, 1) := by decide +kernel
theorem dX7_drift_47 : decode cX7_drift 47 = .ok (.aload_n 0, 1) := by decide +kernel
theorem dX7_drift_48 : decode cX7_drift 48 = .ok (.getfield 28, 3) := by decide +kernel
theorem dX7_drift_51 : decode cX7_drift 51 = .ok (.invokevirtual 276, 3) := by decide +kernel
theorem dX7_drift_54 : decode cX7_drift 54 = .ok (.iadd, 1) := by decide +kernel
theorem dX7_drift_55 : decode cX7_drift 55 = .ok (.istore_n 2, 1) := by decide +kernel
theorem dX7_drift_56 : decode cX7_drift 56 = .ok (.iinc 3 1, 3) := by decide +kernel
theorem dX7_drift_59 : decode cX7_drift 59 = .ok (.goto (-18), 3) := by decide +kernel
theorem dX7_drift_62 : decode cX7_drift 62 = .ok (.iload_n 2, 1) := by decide +kernel
theorem dX7_drift_63 : decode cX7_drift 63 = .ok (.ireturn, 1) := by decide +kernel
theorem dX7_empty_0 : decode cX7_empty 0 = .ok (.aload_n 0, 1) := by decide +kernel
theorem dX7_empty_1 : decode cX7_empty 1 = .ok (.getfield 19, 3) := by decide +kernel
theorem dX7_empty_4 : decode cX7_empty 4 = .ok (.invokevirtual 124, 3) := by decide +kernel
theorem dX7_empty_7 : decode cX7_empty 7 = .ok (.invokestatic 240, 3) := by decide +kernel
theorem dX7_empty_10 : decode cX7_empty 10 = .ok (.istore_n 1, 1) := by decide +kernel
theorem dX7_empty_11 : decode cX7_empty 11 = .ok (.aload_n 0, 1) := by decide +kernel
theorem dX7_empty_12 : decode cX7_empty 12 = .ok (.getfield 19, 3) := by decide +kernel
theorem dX7_empty_15 : decode cX7_empty 15 = .ok (.invokevirtual 264, 3) := by decide +kernel
theorem dX7_empty_18 : decode cX7_empty 18 = .ok (.iload_n 1, 1) := by decide +kernel
theorem dX7_empty_19 : decode cX7_empty 19 = .ok (.ireturn, 1) := by decide +kernel
theorem dX7_seed_0 : decode cX7_seed 0 = .ok (.iload_n 1, 1) := by decide +kernel
theorem dX7_seed_1 : decode cX7_seed 1 = .ok (.ifCond .ge 6, 3) := by decide +kernel
theorem dX7_seed_4 : decode cX7_seed 4 = .ok (.ldc 80, 2) := by decide +kernel
theorem dX7_seed_6 : decode cX7_seed 6 = .ok (.ireturn, 1) := by decide +kernel
theorem dX7_seed_7 : decode cX7_seed 7 = .ok (.aload_n 0, 1) := by decide +kernel
theorem dX7_seed_8 : decode cX7_seed 8 = .ok (.getfield 19, 3) := by decide +kernel
theorem dX7_seed_11 : decode cX7_seed 11 = .ok (.getfield 279, 3) := by decide +kernel
theorem dX7_seed_14 : decode cX7_seed 14 = .ok (.istore_n 2, 1) := by decide +kernel
theorem dX7_seed_15 : decode cX7_seed 15 = .ok (.aload_n 0, 1) := by decide +kernel
theorem dX7_seed_16 : decode cX7_seed 16 = .ok (.getfield 19, 3) := by decide +kernel
theorem dX7_seed_19 : decode cX7_seed 19 = .ok (.iload_n 1, 1) := by decide +kernel
theorem dX7_seed_20 : decode cX7_seed 20 = .ok (.putfield 279, 3) := by decide +kernel
theorem dX7_seed_23 : decode cX7_seed 23 = .ok (.iload_n 2, 1) := by decide +kernel
theorem dX7_seed_24 : decode cX7_seed 24 = .ok (.ireturn, 1) := by decide +kernel
theorem dX7_keep_0 : decode cX7_keep 0 = .ok (.aload_n 0, 1) := by decide +kernel
theorem dX7_keep_1 : decode cX7_keep 1 = .ok (.iload_n 1, 1) := by decide +kernel
theorem dX7_keep_2 : decode cX7_keep 2 = .ok (.invokevirtual 282, 3) := by decide +kernel
theorem dX7_keep_5 : decode cX7_keep 5 = .ok (.ifCond .ne 6, 3) := by decide +kernel
theorem dX7_keep_8 : decode cX7_keep 8 = .ok (.ldc 132, 2) := by decide +kernel
theorem dX7_keep_10 : decode cX7_keep 10 = .ok (.ireturn, 1) := by decide +kernel
theorem dX7_keep_11 : decode cX7_keep 11 = .ok (.aload_n 0, 1) := by decide +kernel
theorem dX7_keep_12 : decode cX7_keep 12 = .ok (.getfield 68, 3) := by decide +kernel
theorem dX7_keep_15 : decode cX7_keep 15 = .ok (.iload_n 1, 1) := by decide +kernel
theorem dX7_keep_16 : decode cX7_keep 16 = .ok (.aaload, 1) := by decide +kernel
theorem dX7_keep_17 : decode cX7_keep 17 = .ok (.aload_n 0, 1) := by decide +kernel
theorem dX7_keep_18 : decode cX7_keep 18 = .ok (.getfield 19, 3) := by decide +kernel
theorem dX7_keep_21 : decode cX7_keep 21 = .ok (.invokevirtual 252, 3) := by decide +kernel
theorem dX7_keep_24 : decode cX7_keep 24 = .ok (.aload_n 0, 1) := by decide +kernel
theorem dX7_keep_25 : decode cX7_keep 25 = .ok (.getfield 72, 3) := by decide +kernel
theorem dX7_keep_28 : decode cX7_keep 28 = .ok (.iload_n 1, 1) := by decide +kernel
theorem dX7_keep_29 : decode cX7_keep 29 = .ok (.iconst 1, 1) := by decide +kernel
theorem dX7_keep_30 : decode cX7_keep 30 = .ok (.bastore, 1) := by decide +kernel
theorem dX7_keep_31 : decode cX7_keep 31 = .ok (.iconst 1, 1) := by decide +kernel
theorem dX7_keep_32 : decode cX7_keep 32 = .ok (.ireturn, 1) := by decide +kernel
theorem dX7_goBack_0 : decode cX7_goBack 0 = .ok (.aload_n 0, 1) := by decide +kernel
theorem dX7_goBack_1 : decode cX7_goBack 1 = .ok (.iload_n 1, 1) := by decide +kernel
theorem dX7_goBack_2 : decode cX7_goBack 2 = .ok (.invokevirtual 282, 3) := by decide +kernel
theorem dX7_goBack_5 : decode cX7_goBack 5 = .ok (.ifCond .ne 6, 3) := by decide +kernel
theorem dX7_goBack_8 : decode cX7_goBack 8 = .ok (.ldc 132, 2) := by decide +kernel
theorem dX7_goBack_10 : decode cX7_goBack 10 = .ok (.ireturn, 1) := by decide +kernel
theorem dX7_goBack_11 : decode cX7_goBack 11 = .ok (.aload_n 0, 1) := by decide +kernel
theorem dX7_goBack_12 : decode cX7_goBack 12 = .ok (.getfield 72, 3) := by decide +kernel
theorem dX7_goBack_15 : decode cX7_goBack 15 = .ok (.iload_n 1, 1) := by decide +kernel
theorem dX7_goBack_16 : decode cX7_goBack 16 = .ok (.baload, 1) := by decide +kernel
theorem dX7_goBack_17 : decode cX7_goBack 17 = .ok (.ifCond .ne 6, 3) := by decide +kernel
theorem dX7_goBack_20 : decode cX7_goBack 20 = .ok (.ldc 186, 2) := by decide +kernel
theorem dX7_goBack_22 : decode cX7_goBack 22 = .ok (.ireturn, 1) := by decide +kernel
theorem dX7_goBack_23 : decode cX7_goBack 23 = .ok (.aload_n 0, 1) := by decide +kernel
theorem dX7_goBack_24 : decode cX7_goBack 24 = .ok (.getfield 19, 3) := by decide +kernel
theorem dX7_goBack_27 : decode cX7_goBack 27 = .ok (.aload_n 0, 1) := by decide +kernel
theorem dX7_goBack_28 : decode cX7_goBack 28 = .ok (.getfield 68, 3) := by decide +kernel
theorem dX7_goBack_31 : decode cX7_goBack 31 = .ok (.iload_n 1, 1) := by decide +kernel
theorem dX7_goBack_32 : decode cX7_goBack 32 = .ok (.aaload, 1) := by decide +kernel
theorem dX7_goBack_33 : decode cX7_goBack 33 = .ok (.invokevirtual 252, 3) := by decide +kernel
theorem dX7_goBack_36 : decode cX7_goBack 36 = .ok (.iconst 1, 1) := by decide +kernel
theorem dX7_goBack_37 : decode cX7_goBack 37 = .ok (.ireturn, 1) := by decide +kernel
theorem dX7_isComing_0 : decode cX7_isComing 0 = .ok (.aload_n 0, 1) := by decide +kernel
theorem dX7_isComing_1 : decode cX7_isComing 1 = .ok (.getfield 12, 3) := by decide +kernel
theorem dX7_isComing_4 : decode cX7_isComing 4 = .ok (.iload_n 1, 1) := by decide +kernel
theorem dX7_isComing_5 : decode cX7_isComing 5 = .ok (.invokevirtual 148, 3) := by decide +kernel
theorem dX7_isComing_8 : decode cX7_isComing 8 = .ok (.ifCond .eq 19, 3) := by decide +kernel
theorem dX7_isComing_11 : decode cX7_isComing 11 = .ok (.aload_n 0, 1) := by decide +kernel
theorem dX7_isComing_12 : decode cX7_isComing 12 = .ok (.getfield 12, 3) := by decide +kernel
theorem dX7_isComing_15 : decode cX7_isComing 15 = .ok (.iload_n 2, 1) := by decide +kernel
theorem dX7_isComing_16 : decode cX7_isComing 16 = .ok (.iload_n 3, 1) := by decide +kernel
theorem dX7_isComing_17 : decode cX7_isComing 17 = .ok (.invokevirtual 137, 3) := by decide +kernel
theorem dX7_isComing_20 : decode cX7_isComing 20 = .ok (.ifCond .eq 7, 3) := by decide +kernel
theorem dX7_isComing_23 : decode cX7_isComing 23 = .ok (.iconst 1, 1) := by decide +kernel
theorem dX7_isComing_24 : decode cX7_isComing 24 = .ok (.goto 4, 3) := by decide +kernel
theorem dX7_isComing_27 : decode cX7_isComing 27 = .ok (.iconst 0, 1) := by decide +kernel
theorem dX7_isComing_28 : decode cX7_isComing 28 = .ok (.ireturn, 1) := by decide +kernel
theorem dX7_isImage_0 : decode cX7_isImage 0 = .ok (.iload_n 1, 1) := by decide +kernel
theorem dX7_isImage_1 : decode cX7_isImage 1 = .ok (.ifCond .lt 12, 3) := by decide +kernel
theorem dX7_isImage_4 : decode cX7_isImage 4 = .ok (.iload_n 1, 1) := by decide +kernel
theorem dX7_isImage_5 : decode cX7_isImage 5 = .ok (.iconst 2, 1) := by decide +kernel
theorem dX7_isImage_6 : decode cX7_isImage 6 = .ok (.if_icmp .ge 7, 3) := by decide +kernel
theorem dX7_isImage_9 : decode cX7_isImage 9 = .ok (.iconst 1, 1) := by decide +kernel
theorem dX7_isImage_10 : decode cX7_isImage 10 = .ok (.goto 4, 3) := by decide +kernel
theorem dX7_isImage_13 : decode cX7_isImage 13 = .ok (.iconst 0, 1) := by decide +kernel
theorem dX7_isImage_14 : decode cX7_isImage 14 = .ok (.ireturn, 1) := by decide +kernel
theorem dX7_placeInRow_0 : decode cX7_placeInRow 0 = .ok (.aload_n 0, 1) := by decide +kernel
theorem dX7_placeInRow_1 : decode cX7_placeInRow 1 = .ok (.getfield 32, 3) := by decide +kernel
theorem dX7_placeInRow_4 : decode cX7_placeInRow 4 = .ok (.aload_n 0, 1) := by decide +kernel
theorem dX7_placeInRow_5 : decode cX7_placeInRow 5 = .ok (.getfield 19, 3) := by decide +kernel
theorem dX7_placeInRow_8 : decode cX7_placeInRow 8 = .ok (.invokevirtual 252, 3) := by decide +kernel
theorem dX7_placeInRow_11 : decode cX7_placeInRow 11 = .ok (.aload_n 0, 1) := by decide +kernel
theorem dX7_placeInRow_12 : decode cX7_placeInRow 12 = .ok (.getfield 32, 3) := by decide +kernel
theorem dX7_placeInRow_15 : decode cX7_placeInRow 15 = .ok (.invokevirtual 264, 3) := by decide +kernel
theorem dX7_placeInRow_18 : decode cX7_placeInRow 18 = .ok (.iconst 0, 1) := by decide +kernel
theorem dX7_placeInRow_19 : decode cX7_placeInRow 19 = .ok (.istore_n 3, 1) := by decide +kernel
theorem dX7_placeInRow_20 : decode cX7_placeInRow 20 = .ok (.iconst 0, 1) := by decide +kernel
theorem dX7_placeInRow_21 : decode cX7_placeInRow 21 = .ok (.istore 4, 2) := by decide +kernel
theorem dX7_placeInRow_23 : decode cX7_placeInRow 23 = .ok (.iload 4, 2) := by decide +kernel
theorem dX7_placeInRow_25 : decode cX7_placeInRow 25 = .ok (.aload_n 0, 1) := by decide +kernel
theorem dX7_placeInRow_26 : decode cX7_placeInRow 26 = .ok (.getfield 12, 3) := by decide +kernel
theorem dX7_placeInRow_29 : decode cX7_placeInRow 29 = .ok (.getfield 112, 3) := by decide +kernel
theorem dX7_placeInRow_32 : decode cX7_placeInRow 32 = .ok (.if_icmp .ge 32, 3) := by decide +kernel
theorem dX7_placeInRow_35 : decode cX7_placeInRow 35 = .ok (.iload_n 2, 1) := by decide +kernel
theorem dX7_placeInRow_36 : decode cX7_placeInRow 36 = .ok (.iload 4, 2) := by decide +kernel
theorem dX7_placeInRow_38 : decode cX7_placeInRow 38 = .ok (.ishr, 1) := by decide +kernel
theorem dX7_placeInRow_39 : decode cX7_placeInRow 39 = .ok (.iconst 1, 1) := by decide +kernel
theorem dX7_placeInRow_40 : decode cX7_placeInRow 40 = .ok (.iand, 1) := by decide +kernel
theorem dX7_placeInRow_41 : decode cX7_placeInRow 41 = .ok (.ifCond .eq 17, 3) := by decide +kernel
theorem dX7_placeInRow_44 : decode cX7_placeInRow 44 = .ok (.aload_n 0, 1) := by decide +kernel
theorem dX7_placeInRow_45 : decode cX7_placeInRow 45 = .ok (.getfield 32, 3) := by decide +kernel
theorem dX7_placeInRow_48 : decode cX7_placeInRow 48 = .ok (.iload 4, 2) := by decide +kernel
theorem dX7_placeInRow_50 : decode cX7_placeInRow 50 = .ok (.iload_n 1, 1) := by decide +kernel
theorem dX7_placeInRow_51 : decode cX7_placeInRow 51 = .ok (.iload_n 3, 1) := by decide +kernel
theorem dX7_placeInRow_52 : decode cX7_placeInRow 52 = .ok (.invokevirtual 187, 3) := by decide +kernel
theorem dX7_placeInRow_55 : decode cX7_placeInRow 55 = .ok (.iinc 3 1, 3) := by decide +kernel
theorem dX7_placeInRow_58 : decode cX7_placeInRow 58 = .ok (.iinc 4 1, 3) := by decide +kernel
theorem dX7_placeInRow_61 : decode cX7_placeInRow 61 = .ok (.goto (-38), 3) := by decide +kernel
theorem dX7_placeInRow_64 : decode cX7_placeInRow 64 = .ok (.return_, 1) := by decide +kernel
theorem dX7_suspectsIn_0 : decode cX7_suspectsIn 0 = .ok (.iconst 0, 1) := by decide +kernel
theorem dX7_suspectsIn_1 : decode cX7_suspectsIn 1 = .ok (.istore_n 2, 1) := by decide +kernel
theorem dX7_suspectsIn_2 : decode cX7_suspectsIn 2 = .ok (.iconst 0, 1) := by decide +kernel
theorem dX7_suspectsIn_3 : decode cX7_suspectsIn 3 = .ok (.istore_n 3, 1) := by decide +kernel
theorem dX7_suspectsIn_4 : decode cX7_suspectsIn 4 = .ok (.iload_n 3, 1) := by decide +kernel
theorem dX7_suspectsIn_5 : decode cX7_suspectsIn 5 = .ok (.aload_n 0, 1) := by decide +kernel
theorem dX7_suspectsIn_6 : decode cX7_suspectsIn 6 = .ok (.getfield 12, 3) := by decide +kernel
theorem dX7_suspectsIn_9 : decode cX7_suspectsIn 9 = .ok (.getfield 112, 3) := by decide +kernel
theorem dX7_suspectsIn_12 : decode cX7_suspectsIn 12 = .ok (.if_icmp .ge 59, 3) := by decide +kernel
theorem dX7_suspectsIn_15 : decode cX7_suspectsIn 15 = .ok (.aload_n 0, 1) := by decide +kernel
theorem dX7_suspectsIn_16 : decode cX7_suspectsIn 16 = .ok (.getfield 32, 3) := by decide +kernel
theorem dX7_suspectsIn_19 : decode cX7_suspectsIn 19 = .ok (.getfield 164, 3) := by decide +kernel
theorem dX7_suspectsIn_22 : decode cX7_suspectsIn 22 = .ok (.iload_n 3, 1) := by decide +kernel
theorem dX7_suspectsIn_23 : decode cX7_suspectsIn 23 = .ok (.iaload, 1) := by decide +kernel
theorem dX7_suspectsIn_24 : decode cX7_suspectsIn 24 = .ok (.iload_n 1, 1) := by decide +kernel
theorem dX7_suspectsIn_25 : decode cX7_suspectsIn 25 = .ok (.if_icmp .ne 40, 3) := by decide +kernel
theorem dX7_suspectsIn_28 : decode cX7_suspectsIn 28 = .ok (.aload_n 0, 1) := by decide +kernel
theorem dX7_suspectsIn_29 : decode cX7_suspectsIn 29 = .ok (.getfield 32, 3) := by decide +kernel
theorem dX7_suspectsIn_32 : decode cX7_suspectsIn 32 = .ok (.getfield 151, 3) := by decide +kernel
theorem dX7_suspectsIn_35 : decode cX7_suspectsIn 35 = .ok (.iload_n 3, 1) := by decide +kernel
theorem dX7_suspectsIn_36 : decode cX7_suspectsIn 36 = .ok (.iaload, 1) := by decide +kernel
theorem dX7_suspectsIn_37 : decode cX7_suspectsIn 37 = .ok (.istore 4, 2) := by decide +kernel
theorem dX7_suspectsIn_39 : decode cX7_suspectsIn 39 = .ok (.aload_n 0, 1) := by decide +kernel
theorem dX7_suspectsIn_40 : decode cX7_suspectsIn 40 = .ok (.iload_n 3, 1) := by decide +kernel
theorem dX7_suspectsIn_41 : decode cX7_suspectsIn 41 = .ok (.iload_n 1, 1) := by decide +kernel
theorem dX7_suspectsIn_42 : decode cX7_suspectsIn 42 = .ok (.invokevirtual 285, 3) := by decide +kernel
theorem dX7_suspectsIn_45 : decode cX7_suspectsIn 45 = .ok (.ifCond .eq 9, 3) := by decide +kernel
theorem dX7_suspectsIn_48 : decode cX7_suspectsIn 48 = .ok (.iload_n 2, 1) := by decide +kernel
theorem dX7_suspectsIn_49 : decode cX7_suspectsIn 49 = .ok (.iconst 1, 1) := by decide +kernel
theorem dX7_suspectsIn_50 : decode cX7_suspectsIn 50 = .ok (.iload_n 3, 1) := by decide +kernel
theorem dX7_suspectsIn_51 : decode cX7_suspectsIn 51 = .ok (.ishl, 1) := by decide +kernel
theorem dX7_suspectsIn_52 : decode cX7_suspectsIn 52 = .ok (.ior, 1) := by decide +kernel
theorem dX7_suspectsIn_53 : decode cX7_suspectsIn 53 = .ok (.istore_n 2, 1) := by decide +kernel
theorem dX7_suspectsIn_54 : decode cX7_suspectsIn 54 = .ok (.aload_n 0, 1) := by decide +kernel
theorem dX7_suspectsIn_55 : decode cX7_suspectsIn 55 = .ok (.getfield 32, 3) := by decide +kernel
theorem dX7_suspectsIn_58 : decode cX7_suspectsIn 58 = .ok (.getfield 151, 3) := by decide +kernel
theorem dX7_suspectsIn_61 : decode cX7_suspectsIn 61 = .ok (.iload_n 3, 1) := by decide +kernel
theorem dX7_suspectsIn_62 : decode cX7_suspectsIn 62 = .ok (.iload 4, 2) := by decide +kernel
theorem dX7_suspectsIn_64 : decode cX7_suspectsIn 64 = .ok (.iastore, 1) := by decide +kernel
theorem dX7_suspectsIn_65 : decode cX7_suspectsIn 65 = .ok (.iinc 3 1, 3) := by decide +kernel
theorem dX7_suspectsIn_68 : decode cX7_suspectsIn 68 = .ok (.goto (-64), 3) := by decide +kernel
theorem dX7_suspectsIn_71 : decode cX7_suspectsIn 71 = .ok (.iload_n 2, 1) := by decide +kernel
theorem dX7_suspectsIn_72 : decode cX7_suspectsIn 72 = .ok (.ireturn, 1) := by decide +kernel
theorem dX7_someAgeIsLawful_0 : decode cX7_someAgeIsLawful 0 = .ok (.aload_n 0, 1) := by decide +kernel
theorem dX7_someAgeIsLawful_1 : decode cX7_someAgeIsLawful 1 = .ok (.getfield 32, 3) := by decide +kernel
theorem dX7_someAgeIsLawful_4 : decode cX7_someAgeIsLawful 4 = .ok (.iload_n 2, 1) := by decide +kernel
theorem dX7_someAgeIsLawful_5 : decode cX7_someAgeIsLawful 5 = .ok (.invokevirtual 191, 3) := by decide +kernel
theorem dX7_someAgeIsLawful_8 : decode cX7_someAgeIsLawful 8 = .ok (.iconst 1, 1) := by decide +kernel
theorem dX7_someAgeIsLawful_9 : decode cX7_someAgeIsLawful 9 = .ok (.iload_n 1, 1) := by decide +kernel
theorem dX7_someAgeIsLawful_10 : decode cX7_someAgeIsLawful 10 = .ok (.ishl, 1) := by decide +kernel
theorem dX7_someAgeIsLawful_11 : decode cX7_someAgeIsLawful 11 = .ok (.iconst (-1), 1) := by decide +kernel
theorem dX7_someAgeIsLawful_12 : decode cX7_someAgeIsLawful 12 = .ok (.ixor, 1) := by decide +kernel
theorem dX7_someAgeIsLawful_13 : decode cX7_someAgeIsLawful 13 = .ok (.iand, 1) := by decide +kernel
theorem dX7_someAgeIsLawful_14 : decode cX7_someAgeIsLawful 14 = .ok (.istore_n 3, 1) := by decide +kernel
theorem dX7_someAgeIsLawful_15 : decode cX7_someAgeIsLawful 15 = .ok (.iconst (-1), 1) := by decide +kernel
theorem dX7_someAgeIsLawful_16 : decode cX7_someAgeIsLawful 16 = .ok (.istore 4, 2) := by decide +kernel
theorem dX7_someAgeIsLawful_18 : decode cX7_someAgeIsLawful 18 = .ok (.iload 4, 2) := by decide +kernel
theorem dX7_someAgeIsLawful_20 : decode cX7_someAgeIsLawful 20 = .ok (.aload_n 0, 1) := by decide +kernel
theorem dX7_someAgeIsLawful_21 : decode cX7_someAgeIsLawful 21 = .ok (.getfield 12, 3) := by decide +kernel
theorem dX7_someAgeIsLawful_24 : decode cX7_someAgeIsLawful 24 = .ok (.getfield 112, 3) := by decide +kernel
theorem dX7_someAgeIsLawful_27 : decode cX7_someAgeIsLawful 27 = .ok (.if_icmp .ge 96, 3) := by decide +kernel
theorem dX7_someAgeIsLawful_30 : decode cX7_someAgeIsLawful 30 = .ok (.iload 4, 2) := by decide +kernel
theorem dX7_someAgeIsLawful_32 : decode cX7_someAgeIsLawful 32 = .ok (.iconst (-1), 1) := by decide +kernel
theorem dX7_someAgeIsLawful_33 : decode cX7_someAgeIsLawful 33 = .ok (.if_icmp .eq 15, 3) := by decide +kernel
theorem dX7_someAgeIsLawful_36 : decode cX7_someAgeIsLawful 36 = .ok (.iload_n 3, 1) := by decide +kernel
theorem dX7_someAgeIsLawful_37 : decode cX7_someAgeIsLawful 37 = .ok (.iload 4, 2) := by decide +kernel
theorem dX7_someAgeIsLawful_39 : decode cX7_someAgeIsLawful 39 = .ok (.ishr, 1) := by decide +kernel
theorem dX7_someAgeIsLawful_40 : decode cX7_someAgeIsLawful 40 = .ok (.iconst 1, 1) := by decide +kernel
theorem dX7_someAgeIsLawful_41 : decode cX7_someAgeIsLawful 41 = .ok (.iand, 1) := by decide +kernel
theorem dX7_someAgeIsLawful_42 : decode cX7_someAgeIsLawful 42 = .ok (.ifCond .ne 6, 3) := by decide +kernel
theorem dX7_someAgeIsLawful_45 : decode cX7_someAgeIsLawful 45 = .ok (.goto 72, 3) := by decide +kernel
theorem dX7_someAgeIsLawful_48 : decode cX7_someAgeIsLawful 48 = .ok (.iload 4, 2) := by decide +kernel
theorem dX7_someAgeIsLawful_50 : decode cX7_someAgeIsLawful 50 = .ok (.iconst (-1), 1) := by decide +kernel
theorem dX7_someAgeIsLawful_51 : decode cX7_someAgeIsLawful 51 = .ok (.if_icmp .ne 7, 3) := by decide +kernel
theorem dX7_someAgeIsLawful_54 : decode cX7_someAgeIsLawful 54 = .ok (.iconst 0, 1) := by decide +kernel
theorem dX7_someAgeIsLawful_55 : decode cX7_someAgeIsLawful 55 = .ok (.goto 15, 3) := by decide +kernel
theorem dX7_someAgeIsLawful_58 : decode cX7_someAgeIsLawful 58 = .ok (.aload_n 0, 1) := by decide +kernel
theorem dX7_someAgeIsLawful_59 : decode cX7_someAgeIsLawful 59 = .ok (.getfield 32, 3) := by decide +kernel
theorem dX7_someAgeIsLawful_62 : decode cX7_someAgeIsLawful 62 = .ok (.getfield 151, 3) := by decide +kernel
theorem dX7_someAgeIsLawful_65 : decode cX7_someAgeIsLawful 65 = .ok (.iload 4, 2) := by decide +kernel
theorem dX7_someAgeIsLawful_67 : decode cX7_someAgeIsLawful 67 = .ok (.iaload, 1) := by decide +kernel
theorem dX7_someAgeIsLawful_68 : decode cX7_someAgeIsLawful 68 = .ok (.iconst 1, 1) := by decide +kernel
theorem dX7_someAgeIsLawful_69 : decode cX7_someAgeIsLawful 69 = .ok (.iadd, 1) := by decide +kernel
theorem dX7_someAgeIsLawful_70 : decode cX7_someAgeIsLawful 70 = .ok (.istore 5, 2) := by decide +kernel
theorem dX7_someAgeIsLawful_72 : decode cX7_someAgeIsLawful 72 = .ok (.iload 5, 2) := by decide +kernel
theorem dX7_someAgeIsLawful_74 : decode cX7_someAgeIsLawful 74 = .ok (.bipush 99, 2) := by decide +kernel
theorem dX7_someAgeIsLawful_76 : decode cX7_someAgeIsLawful 76 = .ok (.if_icmp .gt 41, 3) := by decide +kernel
theorem dX7_someAgeIsLawful_79 : decode cX7_someAgeIsLawful 79 = .ok (.aload_n 0, 1) := by decide +kernel
theorem dX7_someAgeIsLawful_80 : decode cX7_someAgeIsLawful 80 = .ok (.getfield 32, 3) := by decide +kernel
theorem dX7_someAgeIsLawful_83 : decode cX7_someAgeIsLawful 83 = .ok (.iload_n 3, 1) := by decide +kernel
theorem dX7_someAgeIsLawful_84 : decode cX7_someAgeIsLawful 84 = .ok (.iload 5, 2) := by decide +kernel
theorem dX7_someAgeIsLawful_86 : decode cX7_someAgeIsLawful 86 = .ok (.invokevirtual 288, 3) := by decide +kernel
theorem dX7_someAgeIsLawful_89 : decode cX7_someAgeIsLawful 89 = .ok (.ifCond .ne 28, 3) := by decide +kernel
theorem dX7_someAgeIsLawful_92 : decode cX7_someAgeIsLawful 92 = .ok (.aload_n 0, 1) := by decide +kernel
theorem dX7_someAgeIsLawful_93 : decode cX7_someAgeIsLawful 93 = .ok (.getfield 32, 3) := by decide +kernel
theorem dX7_someAgeIsLawful_96 : decode cX7_someAgeIsLawful 96 = .ok (.getfield 151, 3) := by decide +kernel
theorem dX7_someAgeIsLawful_99 : decode cX7_someAgeIsLawful 99 = .ok (.iload_n 1, 1) := by decide +kernel
theorem dX7_someAgeIsLawful_100 : decode cX7_someAgeIsLawful 100 = .ok (.iload 5, 2) := by decide +kernel
theorem dX7_someAgeIsLawful_102 : decode cX7_someAgeIsLawful 102 = .ok (.iastore, 1) := by decide +kernel
theorem dX7_someAgeIsLawful_103 : decode cX7_someAgeIsLawful 103 = .ok (.aload_n 0, 1) := by decide +kernel
theorem dX7_someAgeIsLawful_104 : decode cX7_someAgeIsLawful 104 = .ok (.getfield 35, 3) := by decide +kernel
theorem dX7_someAgeIsLawful_107 : decode cX7_someAgeIsLawful 107 = .ok (.iload_n 2, 1) := by decide +kernel
theorem dX7_someAgeIsLawful_108 : decode cX7_someAgeIsLawful 108 = .ok (.invokevirtual 198, 3) := by decide +kernel
theorem dX7_someAgeIsLawful_111 : decode cX7_someAgeIsLawful 111 = .ok (.iconst (-1), 1) := by decide +kernel
theorem dX7_someAgeIsLawful_112 : decode cX7_someAgeIsLawful 112 = .ok (.if_icmp .ne 5, 3) := by decide +kernel
theorem dX7_someAgeIsLawful_115 : decode cX7_someAgeIsLawful 115 = .ok (.iconst 1, 1) := by decide +kernel
theorem dX7_someAgeIsLawful_116 : decode cX7_someAgeIsLawful 116 = .ok (.ireturn, 1) := by decide +kernel
theorem dX7_someAgeIsLawful_117 : decode cX7_someAgeIsLawful 117 = .ok (.iinc 4 1, 3) := by decide +kernel
theorem dX7_someAgeIsLawful_120 : decode cX7_someAgeIsLawful 120 = .ok (.goto (-102), 3) := by decide +kernel
theorem dX7_someAgeIsLawful_123 : decode cX7_someAgeIsLawful 123 = .ok (.iconst 0, 1) := by decide +kernel
theorem dX7_someAgeIsLawful_124 : decode cX7_someAgeIsLawful 124 = .ok (.ireturn, 1) := by decide +kernel
theorem dX7_heelsIn_0 : decode cX7_heelsIn 0 = .ok (.iconst 0, 1) := by decide +kernel
theorem dX7_heelsIn_1 : decode cX7_heelsIn 1 = .ok (.istore_n 2, 1) := by decide +kernel
theorem dX7_heelsIn_2 : decode cX7_heelsIn 2 = .ok (.iconst 0, 1) := by decide +kernel
theorem dX7_heelsIn_3 : decode cX7_heelsIn 3 = .ok (.istore_n 3, 1) := by decide +kernel
theorem dX7_heelsIn_4 : decode cX7_heelsIn 4 = .ok (.iload_n 3, 1) := by decide +kernel
theorem dX7_heelsIn_5 : decode cX7_heelsIn 5 = .ok (.aload_n 0, 1) := by decide +kernel
theorem dX7_heelsIn_6 : decode cX7_heelsIn 6 = .ok (.getfield 12, 3) := by decide +kernel
theorem dX7_heelsIn_9 : decode cX7_heelsIn 9 = .ok (.getfield 112, 3) := by decide +kernel
theorem dX7_heelsIn_12 : decode cX7_heelsIn 12 = .ok (.if_icmp .ge 66, 3) := by decide +kernel
theorem dX7_heelsIn_15 : decode cX7_heelsIn 15 = .ok (.aload_n 0, 1) := by decide +kernel
theorem dX7_heelsIn_16 : decode cX7_heelsIn 16 = .ok (.getfield 32, 3) := by decide +kernel
theorem dX7_heelsIn_19 : decode cX7_heelsIn 19 = .ok (.getfield 164, 3) := by decide +kernel
theorem dX7_heelsIn_22 : decode cX7_heelsIn 22 = .ok (.iload_n 3, 1) := by decide +kernel
theorem dX7_heelsIn_23 : decode cX7_heelsIn 23 = .ok (.iaload, 1) := by decide +kernel
theorem dX7_heelsIn_24 : decode cX7_heelsIn 24 = .ok (.iload_n 1, 1) := by decide +kernel
theorem dX7_heelsIn_25 : decode cX7_heelsIn 25 = .ok (.if_icmp .ne 47, 3) := by decide +kernel
theorem dX7_heelsIn_28 : decode cX7_heelsIn 28 = .ok (.aload_n 0, 1) := by decide +kernel
theorem dX7_heelsIn_29 : decode cX7_heelsIn 29 = .ok (.getfield 32, 3) := by decide +kernel
theorem dX7_heelsIn_32 : decode cX7_heelsIn 32 = .ok (.getfield 155, 3) := by decide +kernel
theorem dX7_heelsIn_35 : decode cX7_heelsIn 35 = .ok (.iload_n 3, 1) := by decide +kernel
theorem dX7_heelsIn_36 : decode cX7_heelsIn 36 = .ok (.dup2, 1) := by decide +kernel
theorem dX7_heelsIn_37 : decode cX7_heelsIn 37 = .ok (.iaload, 1) := by decide +kernel
theorem dX7_heelsIn_38 : decode cX7_heelsIn 38 = .ok (.iconst 1, 1) := by decide +kernel
theorem dX7_heelsIn_39 : decode cX7_heelsIn 39 = .ok (.isub, 1) := by decide +kernel
theorem dX7_heelsIn_40 : decode cX7_heelsIn 40 = .ok (.iastore, 1) := by decide +kernel
theorem dX7_heelsIn_41 : decode cX7_heelsIn 41 = .ok (.aload_n 0, 1) := by decide +kernel
theorem dX7_heelsIn_42 : decode cX7_heelsIn 42 = .ok (.getfield 35, 3) := by decide +kernel
theorem dX7_heelsIn_45 : decode cX7_heelsIn 45 = .ok (.iload_n 1, 1) := by decide +kernel
theorem dX7_heelsIn_46 : decode cX7_heelsIn 46 = .ok (.invokevirtual 198, 3) := by decide +kernel
theorem dX7_heelsIn_49 : decode cX7_heelsIn 49 = .ok (.iconst (-1), 1) := by decide +kernel
theorem dX7_heelsIn_50 : decode cX7_heelsIn 50 = .ok (.if_icmp .ne 9, 3) := by decide +kernel
theorem dX7_heelsIn_53 : decode cX7_heelsIn 53 = .ok (.iload_n 2, 1) := by decide +kernel
theorem dX7_heelsIn_54 : decode cX7_heelsIn 54 = .ok (.iconst 1, 1) := by decide +kernel
theorem dX7_heelsIn_55 : decode cX7_heelsIn 55 = .ok (.iload_n 3, 1) := by decide +kernel
theorem dX7_heelsIn_56 : decode cX7_heelsIn 56 = .ok (.ishl, 1) := by decide +kernel
theorem dX7_heelsIn_57 : decode cX7_heelsIn 57 = .ok (.ior, 1) := by decide +kernel
theorem dX7_heelsIn_58 : decode cX7_heelsIn 58 = .ok (.istore_n 2, 1) := by decide +kernel
theorem dX7_heelsIn_59 : decode cX7_heelsIn 59 = .ok (.aload_n 0, 1) := by decide +kernel
theorem dX7_heelsIn_60 : decode cX7_heelsIn 60 = .ok (.getfield 32, 3) := by decide +kernel
theorem dX7_heelsIn_63 : decode cX7_heelsIn 63 = .ok (.getfield 155, 3) := by decide +kernel
theorem dX7_heelsIn_66 : decode cX7_heelsIn 66 = .ok (.iload_n 3, 1) := by decide +kernel
theorem dX7_heelsIn_67 : decode cX7_heelsIn 67 = .ok (.dup2, 1) := by decide +kernel
theorem dX7_heelsIn_68 : decode cX7_heelsIn 68 = .ok (.iaload, 1) := by decide +kernel
theorem dX7_heelsIn_69 : decode cX7_heelsIn 69 = .ok (.iconst 1, 1) := by decide +kernel
theorem dX7_heelsIn_70 : decode cX7_heelsIn 70 = .ok (.iadd, 1) := by decide +kernel
theorem dX7_heelsIn_71 : decode cX7_heelsIn 71 = .ok (.iastore, 1) := by decide +kernel
theorem dX7_heelsIn_72 : decode cX7_heelsIn 72 = .ok (.iinc 3 1, 3) := by decide +kernel
theorem dX7_heelsIn_75 : decode cX7_heelsIn 75 = .ok (.goto (-71), 3) := by decide +kernel
theorem dX7_heelsIn_78 : decode cX7_heelsIn 78 = .ok (.iload_n 2, 1) := by decide +kernel
theorem dX7_heelsIn_79 : decode cX7_heelsIn 79 = .ok (.ireturn, 1) := by decide +kernel
theorem dX7_copyRow_0 : decode cX7_copyRow 0 = .ok (.aload_n 0, 1) := by decide +kernel
theorem dX7_copyRow_1 : decode cX7_copyRow 1 = .ok (.iconst 0, 1) := by decide +kernel
theorem dX7_copyRow_2 : decode cX7_copyRow 2 = .ok (.aload_n 1, 1) := by decide +kernel
theorem dX7_copyRow_3 : decode cX7_copyRow 3 = .ok (.iconst 0, 1) := by decide +kernel
theorem dX7_copyRow_4 : decode cX7_copyRow 4 = .ok (.aload_n 0, 1) := by decide +kernel
theorem dX7_copyRow_5 : decode cX7_copyRow 5 = .ok (.arraylength, 1) := by decide +kernel
theorem dX7_copyRow_6 : decode cX7_copyRow 6 = .ok (.aload_n 1, 1) := by decide +kernel
theorem dX7_copyRow_7 : decode cX7_copyRow 7 = .ok (.arraylength, 1) := by decide +kernel
theorem dX7_copyRow_8 : decode cX7_copyRow 8 = .ok (.invokestatic 291, 3) := by decide +kernel
theorem dX7_copyRow_11 : decode cX7_copyRow 11 = .ok (.invokestatic 296, 3) := by decide +kernel
theorem dX7_copyRow_14 : decode cX7_copyRow 14 = .ok (.return_, 1) := by decide +kernel
end
section
theorem dX8_init_0 : decode cX8_init 0 = .ok (.aload_n 0, 1) := by decide +kernel
theorem dX8_init_1 : decode cX8_init 1 = .ok (.invokespecial 1, 3) := by decide +kernel
theorem dX8_init_4 : decode cX8_init 4 = .ok (.aload_n 0, 1) := by decide +kernel
theorem dX8_init_5 : decode cX8_init 5 = .ok (.iconst 3, 1) := by decide +kernel
theorem dX8_init_6 : decode cX8_init 6 = .ok (.newarray .int, 2) := by decide +kernel
theorem dX8_init_8 : decode cX8_init 8 = .ok (.putfield 7, 3) := by decide +kernel
theorem dX8_init_11 : decode cX8_init 11 = .ok (.aload_n 0, 1) := by decide +kernel
theorem dX8_init_12 : decode cX8_init 12 = .ok (.bipush 18, 2) := by decide +kernel
theorem dX8_init_14 : decode cX8_init 14 = .ok (.newarray .int, 2) := by decide +kernel
theorem dX8_init_16 : decode cX8_init 16 = .ok (.putfield 13, 3) := by decide +kernel
theorem dX8_init_19 : decode cX8_init 19 = .ok (.aload_n 0, 1) := by decide +kernel
theorem dX8_init_20 : decode cX8_init 20 = .ok (.bipush 6, 2) := by decide +kernel
theorem dX8_init_22 : decode cX8_init 22 = .ok (.newarray .int, 2) := by decide +kernel
theorem dX8_init_24 : decode cX8_init 24 = .ok (.putfield 16, 3) := by decide +kernel
theorem dX8_init_27 : decode cX8_init 27 = .ok (.aload_n 0, 1) := by decide +kernel
theorem dX8_init_28 : decode cX8_init 28 = .ok (.bipush 6, 2) := by decide +kernel
theorem dX8_init_30 : decode cX8_init 30 = .ok (.newarray .int, 2) := by decide +kernel
theorem dX8_init_32 : decode cX8_init 32 = .ok (.putfield 19, 3) := by decide +kernel
theorem dX8_init_35 : decode cX8_init 35 = .ok (.aload_n 0, 1) := by decide +kernel
theorem dX8_init_36 : decode cX8_init 36 = .ok (.bipush 6, 2) := by decide +kernel
theorem dX8_init_38 : decode cX8_init 38 = .ok (.newarray .int, 2) := by decide +kernel
theorem dX8_init_40 : decode cX8_init 40 = .ok (.putfield 22, 3) := by decide +kernel
theorem dX8_init_43 : decode cX8_init 43 = .ok (.aload_n 0, 1) := by decide +kernel
theorem dX8_init_44 : decode cX8_init 44 = .ok (.bipush 6, 2) := by decide +kernel
theorem dX8_init_46 : decode cX8_init 46 = .ok (.newarray .int, 2) := by decide +kernel
theorem dX8_init_48 : decode cX8_init 48 = .ok (.putfield 25, 3) := by decide +kernel
theorem dX8_init_51 : decode cX8_init 51 = .ok (.aload_n 0, 1) := by decide +kernel
theorem dX8_init_52 : decode cX8_init 52 = .ok (.bipush 36, 2) := by decide +kernel
theorem dX8_init_54 : decode cX8_init 54 = .ok (.newarray .int, 2) := by decide +kernel
theorem dX8_init_56 : decode cX8_init 56 = .ok (.putfield 28, 3) := by decide +kernel
theorem dX8_init_59 : decode cX8_init 59 = .ok (.aload_n 0, 1) := by decide +kernel
theorem dX8_init_60 : decode cX8_init 60 = .ok (.bipush 6, 2) := by decide +kernel
theorem dX8_init_62 : decode cX8_init 62 = .ok (.newarray .int, 2) := by decide +kernel
theorem dX8_init_64 : decode cX8_init 64 = .ok (.putfield 31, 3) := by decide +kernel
theorem dX8_init_67 : decode cX8_init 67 = .ok (.aload_n 0, 1) := by decide +kernel
theorem dX8_init_68 : decode cX8_init 68 = .ok (.bipush 6, 2) := by decide +kernel
theorem dX8_init_70 : decode cX8_init 70 = .ok (.newarray .int, 2) := by decide +kernel
theorem dX8_init_72 : decode cX8_init 72 = .ok (.putfield 34, 3) := by decide +kernel
theorem dX8_init_75 : decode cX8_init 75 = .ok (.aload_n 0, 1) := by decide +kernel
theorem dX8_init_76 : decode cX8_init 76 = .ok (.bipush 6, 2) := by decide +kernel
theorem dX8_init_78 : decode cX8_init 78 = .ok (.newarray .int, 2) := by decide +kernel
theorem dX8_init_80 : decode cX8_init 80 = .ok (.putfield 37, 3) := by decide +kernel
theorem dX8_init_83 : decode cX8_init 83 = .ok (.aload_n 0, 1) := by decide +kernel
theorem dX8_init_84 : decode cX8_init 84 = .ok (.bipush 6, 2) := by decide +kernel
theorem dX8_init_86 : decode cX8_init 86 = .ok (.newarray .int, 2) := by decide +kernel
theorem dX8_init_88 : decode cX8_init 88 = .ok (.putfield 40, 3) := by decide +kernel
theorem dX8_init_91 : decode cX8_init 91 = .ok (.aload_n 0, 1) := by decide +kernel
theorem dX8_init_92 : decode cX8_init 92 = .ok (.bipush 6, 2) := by decide +kernel
theorem dX8_init_94 : decode cX8_init 94 = .ok (.newarray .int, 2) := by decide +kernel
theorem dX8_init_96 : decode cX8_init 96 = .ok (.putfield 43, 3) := by decide +kernel
theorem dX8_init_99 : decode cX8_init 99 = .ok (.aload_n 0, 1) := by decide +kernel
theorem dX8_init_100 : decode cX8_init 100 = .ok (.sipush 500, 3) := by decide +kernel
theorem dX8_init_103 : decode cX8_init 103 = .ok (.newarray .int, 2) := by decide +kernel
theorem dX8_init_105 : decode cX8_init 105 = .ok (.putfield 46, 3) := by decide +kernel
theorem dX8_init_108 : decode cX8_init 108 = .ok (.aload_n 0, 1) := by decide +kernel
theorem dX8_init_109 : decode cX8_init 109 = .ok (.iconst (-1), 1) := by decide +kernel
theorem dX8_init_110 : decode cX8_init 110 = .ok (.putfield 49, 3) := by decide +kernel
theorem dX8_init_113 : decode cX8_init 113 = .ok (.aload_n 0, 1) := by decide +kernel
theorem dX8_init_114 : decode cX8_init 114 = .ok (.iconst 3, 1) := by decide +kernel
theorem dX8_init_115 : decode cX8_init 115 = .ok (.newarray .int, 2) := by decide +kernel
theorem dX8_init_117 : decode cX8_init 117 = .ok (.putfield 53, 3) := by decide +kernel
theorem dX8_init_120 : decode cX8_init 120 = .ok (.aload_n 0, 1) := by decide +kernel
theorem dX8_init_121 : decode cX8_init 121 = .ok (.bipush 18, 2) := by decide +kernel
theorem dX8_init_123 : decode cX8_init 123 = .ok (.newarray .int, 2) := by decide +kernel
theorem dX8_init_125 : decode cX8_init 125 = .ok (.putfield 56, 3) := by decide +kernel
theorem dX8_init_128 : decode cX8_init 128 = .ok (.aload_n 0, 1) := by decide +kernel
theorem dX8_init_129 : decode cX8_init 129 = .ok (.bipush 6, 2) := by decide +kernel
theorem dX8_init_131 : decode cX8_init 131 = .ok (.newarray .int, 2) := by decide +kernel
theorem dX8_init_133 : decode cX8_init 133 = .ok (.putfield 59, 3) := by decide +kernel
theorem dX8_init_136 : decode cX8_init 136 = .ok (.aload_n 0, 1) := by decide +kernel
theorem dX8_init_137 : decode cX8_init 137 = .ok (.bipush 6, 2) := by decide +kernel
theorem dX8_init_139 : decode cX8_init 139 = .ok (.newarray .int, 2) := by decide +kernel
theorem dX8_init_141 : decode cX8_init 141 = .ok (.putfield 62, 3) := by decide +kernel
theorem dX8_init_144 : decode cX8_init 144 = .ok (.aload_n 0, 1) := by decide +kernel
theorem dX8_init_145 : decode cX8_init 145 = .ok (.bipush 6, 2) := by decide +kernel
theorem dX8_init_147 : decode cX8_init 147 = .ok (.newarray .int, 2) := by decide +kernel
theorem dX8_init_149 : decode cX8_init 149 = .ok (.putfield 65, 3) := by decide +kernel
theorem dX8_init_152 : decode cX8_init 152 = .ok (.aload_n 0, 1) := by decide +kernel
theorem dX8_init_153 : decode cX8_init 153 = .ok (.bipush 6, 2) := by decide +kernel
theorem dX8_init_155 : decode cX8_init 155 = .ok (.newarray .int, 2) := by decide +kernel
theorem dX8_init_157 : decode cX8_init 157 = .ok (.putfield 68, 3) := by decide +kernel
theorem dX8_init_160 : decode cX8_init 160 = .ok (.aload_n 0, 1) := by decide +kernel
theorem dX8_init_161 : decode cX8_init 161 = .ok (.bipush 36, 2) := by decide +kernel
theorem dX8_init_163 : decode cX8_init 163 = .ok (.newarray .int, 2) := by decide +kernel
theorem dX8_init_165 : decode cX8_init 165 = .ok (.putfield 71, 3) := by decide +kernel
theorem dX8_init_168 : decode cX8_init 168 = .ok (.aload_n 0, 1) := by decide +kernel
theorem dX8_init_169 : decode cX8_init 169 = .ok (.bipush 6, 2) := by decide +kernel
theorem dX8_init_171 : decode cX8_init 171 = .ok (.newarray .int, 2) := by decide +kernel
theorem dX8_init_173 : decode cX8_init 173 = .ok (.putfield 74, 3) := by decide +kernel
theorem dX8_init_176 : decode cX8_init 176 = .ok (.aload_n 0, 1) := by decide +kernel
theorem dX8_init_177 : decode cX8_init 177 = .ok (.bipush 6, 2) := by decide +kernel
theorem dX8_init_179 : decode cX8_init 179 = .ok (.newarray .int, 2) := by decide +kernel
theorem dX8_init_181 : decode cX8_init 181 = .ok (.putfield 77, 3) := by decide +kernel
theorem dX8_init_184 : decode cX8_init 184 = .ok (.aload_n 0, 1) := by decide +kernel
theorem dX8_init_185 : decode cX8_init 185 = .ok (.bipush 6, 2) := by decide +kernel
theorem dX8_init_187 : decode cX8_init 187 = .ok (.newarray .int, 2) := by decide +kernel
theorem dX8_init_189 : decode cX8_init 189 = .ok (.putfield 80, 3) := by decide +kernel
theorem dX8_init_192 : decode cX8_init 192 = .ok (.aload_n 0, 1) := by decide +kernel
theorem dX8_init_193 : decode cX8_init 193 = .ok (.bipush 6, 2) := by decide +kernel
theorem dX8_init_195 : decode cX8_init 195 = .ok (.newarray .int, 2) := by decide +kernel
theorem dX8_init_197 : decode cX8_init 197 = .ok (.putfield 83, 3) := by decide +kernel
theorem dX8_init_200 : decode cX8_init 200 = .ok (.aload_n 0, 1) := by decide +kernel
theorem dX8_init_201 : decode cX8_init 201 = .ok (.sipush 192, 3) := by decide +kernel
theorem dX8_init_204 : decode cX8_init 204 = .ok (.newarray .int, 2) := by decide +kernel
theorem dX8_init_206 : decode cX8_init 206 = .ok (.putfield 86, 3) := by decide +kernel
theorem dX8_init_209 : decode cX8_init 209 = .ok (.aload_n 0, 1) := by decide +kernel
theorem dX8_init_210 : decode cX8_init 210 = .ok (.bipush 6, 2) := by decide +kernel
theorem dX8_init_212 : decode cX8_init 212 = .ok (.newarray .int, 2) := by decide +kernel
theorem dX8_init_214 : decode cX8_init 214 = .ok (.putfield 89, 3) := by decide +kernel
theorem dX8_init_217 : decode cX8_init 217 = .ok (.aload_n 0, 1) := by decide +kernel
theorem dX8_init_218 : decode cX8_init 218 = .ok (.bipush 6, 2) := by decide +kernel
theorem dX8_init_220 : decode cX8_init 220 = .ok (.newarray .int, 2) := by decide +kernel
theorem dX8_init_222 : decode cX8_init 222 = .ok (.putfield 92, 3) := by decide +kernel
theorem dX8_init_225 : decode cX8_init 225 = .ok (.aload_n 0, 1) := by decide +kernel
theorem dX8_init_226 : decode cX8_init 226 = .ok (.bipush 6, 2) := by decide +kernel
theorem dX8_init_228 : decode cX8_init 228 = .ok (.newarray .int, 2) := by decide +kernel
theorem dX8_init_230 : decode cX8_init 230 = .ok (.putfield 95, 3) := by decide +kernel
theorem dX8_init_233 : decode cX8_init 233 = .ok (.aload_n 0, 1) := by decide +kernel
theorem dX8_init_234 : decode cX8_init 234 = .ok (.bipush 6, 2) := by decide +kernel
theorem dX8_init_236 : decode cX8_init 236 = .ok (.newarray .int, 2) := by decide +kernel
theorem dX8_init_238 : decode cX8_init 238 = .ok (.putfield 98, 3) := by decide +kernel
theorem dX8_init_241 : decode cX8_init 241 = .ok (.aload_n 0, 1) := by decide +kernel
theorem dX8_init_242 : decode cX8_init 242 = .ok (.bipush 20, 2) := by decide +kernel
theorem dX8_init_244 : decode cX8_init 244 = .ok (.newarray .int, 2) := by decide +kernel
theorem dX8_init_246 : decode cX8_init 246 = .ok (.putfield 101, 3) := by decide +kernel
theorem dX8_init_249 : decode cX8_init 249 = .ok (.aload_n 0, 1) := by decide +kernel
theorem dX8_init_250 : decode cX8_init 250 = .ok (.bipush 20, 2) := by decide +kernel
theorem dX8_init_252 : decode cX8_init 252 = .ok (.newarray .int, 2) := by decide +kernel
theorem dX8_init_254 : decode cX8_init 254 = .ok (.putfield 104, 3) := by decide +kernel
theorem dX8_init_257 : decode cX8_init 257 = .ok (.aload_n 0, 1) := by decide +kernel
theorem dX8_init_258 : decode cX8_init 258 = .ok (.bipush 20, 2) := by decide +kernel
theorem dX8_init_260 : decode cX8_init 260 = .ok (.newarray .int, 2) := by decide +kernel
theorem dX8_init_262 : decode cX8_init 262 = .ok (.putfield 107, 3) := by decide +kernel
theorem dX8_init_265 : decode cX8_init 265 = .ok (.aload_n 0, 1) := by decide +kernel
theorem dX8_init_266 : decode cX8_init 266 = .ok (.bipush 120, 2) := by decide +kernel
theorem dX8_init_268 : decode cX8_init 268 = .ok (.newarray .int, 2) := by decide +kernel
theorem dX8_init_270 : decode cX8_init 270 = .ok (.putfield 110, 3) := by decide +kernel
theorem dX8_init_273 : decode cX8_init 273 = .ok (.aload_n 0, 1) := by decide +kernel
theorem dX8_init_274 : decode cX8_init 274 = .ok (.iconst 2, 1) := by decide +kernel
theorem dX8_init_275 : decode cX8_init 275 = .ok (.newarray .boolean, 2) := by decide +kernel
theorem dX8_init_277 : decode cX8_init 277 = .ok (.putfield 113, 3) := by decide +kernel
theorem dX8_init_280 : decode cX8_init 280 = .ok (.aload_n 0, 1) := by decide +kernel
theorem dX8_init_281 : decode cX8_init 281 = .ok (.invokevirtual 117, 3) := by decide +kernel
theorem dX8_init_284 : decode cX8_init 284 = .ok (.return_, 1) := by decide +kernel
theorem dX8_in_0 : decode cX8_in 0 = .ok (.lload_n 0, 1) := by decide +kernel
theorem dX8_in_1 : decode cX8_in 1 = .ok (.lload_n 2, 1) := by decide +kernel
theorem dX8_in_2 : decode cX8_in 2 = .ok (.lcmp, 1) := by decide +kernel
theorem dX8_in_3 : decode cX8_in 3 = .ok (.ifCond .lt 14, 3) := by decide +kernel
theorem dX8_in_6 : decode cX8_in 6 = .ok (.lload_n 0, 1) := by decide +kernel
theorem dX8_in_7 : decode cX8_in 7 = .ok (.lload 4, 2) := by decide +kernel
theorem dX8_in_9 : decode cX8_in 9 = .ok (.lcmp, 1) := by decide +kernel
theorem dX8_in_10 : decode cX8_in 10 = .ok (.ifCond .gt 7, 3) := by decide +kernel
theorem dX8_in_13 : decode cX8_in 13 = .ok (.iconst 1, 1) := by decide +kernel
theorem dX8_in_14 : decode cX8_in 14 = .ok (.goto 4, 3) := by decide +kernel
theorem dX8_in_17 : decode cX8_in 17 = .ok (.iconst 0, 1) := by decide +kernel
theorem dX8_in_18 : decode cX8_in 18 = .ok (.ireturn, 1) := by decide +kernel
theorem dX8_has_0 : decode cX8_has 0 = .ok (.iload_n 0, 1) := by decide +kernel
theorem dX8_has_1 : decode cX8_has 1 = .ok (.iload_n 1, 1) := by decide +kernel
theorem dX8_has_2 : decode cX8_has 2 = .ok (.ishr, 1) := by decide +kernel
theorem dX8_has_3 : decode cX8_has 3 = .ok (.iconst 1, 1) := by decide +kernel
theorem dX8_has_4 : decode cX8_has 4 = .ok (.iand, 1) := by decide +kernel
theorem dX8_has_5 : decode cX8_has 5 = .ok (.iconst 1, 1) := by decide +kernel
theorem dX8_has_6 : decode cX8_has 6 = .ok (.if_icmp .ne 7, 3) := by decide +kernel
theorem dX8_has_9 : decode cX8_has 9 = .ok (.iconst 1, 1) := by decide +kernel
theorem dX8_has_10 : decode cX8_has 10 = .ok (.goto 4, 3) := by decide +kernel
theorem dX8_has_13 : decode cX8_has 13 = .ok (.iconst 0, 1) := by decide +kernel
theorem dX8_has_14 : decode cX8_has 14 = .ok (.ireturn, 1) := by decide +kernel
theorem dX8_bits_0 : decode cX8_bits 0 = .ok (.iconst 0, 1) := by decide +kernel
theorem dX8_bits_1 : decode cX8_bits 1 = .ok (.istore_n 1, 1) := by decide +kernel
theorem dX8_bits_2 : decode cX8_bits 2 = .ok (.iconst 0, 1) := by decide +kernel
theorem dX8_bits_3 : decode cX8_bits 3 = .ok (.istore_n 2, 1) := by decide +kernel
theorem dX8_bits_4 : decode cX8_bits 4 = .ok (.iload_n 2, 1) := by decide +kernel
theorem dX8_bits_5 : decode cX8_bits 5 = .ok (.bipush 6, 2) := by decide +kernel
theorem dX8_bits_7 : decode cX8_bits 7 = .ok (.if_icmp .ge 17, 3) := by decide +kernel
theorem dX8_bits_10 : decode cX8_bits 10 = .ok (.iload_n 1, 1) := by decide +kernel
theorem dX8_bits_11 : decode cX8_bits 11 = .ok (.iload_n 0, 1) := by decide +kernel
theorem dX8_bits_12 : decode cX8_bits 12 = .ok (.iload_n 2, 1) := by decide +kernel
theorem dX8_bits_13 : decode cX8_bits 13 = .ok (.ishr, 1) := by decide +kernel
theorem dX8_bits_14 : decode cX8_bits 14 = .ok (.iconst 1, 1) := by decide +kernel
theorem dX8_bits_15 : decode cX8_bits 15 = .ok (.iand, 1) := by decide +kernel
theorem dX8_bits_16 : decode cX8_bits 16 = .ok (.iadd, 1) := by decide +kernel
theorem dX8_bits_17 : decode cX8_bits 17 = .ok (.istore_n 1, 1) := by decide +kernel
theorem dX8_bits_18 : decode cX8_bits 18 = .ok (.iinc 2 1, 3) := by decide +kernel
theorem dX8_bits_21 : decode cX8_bits 21 = .ok (.goto (-17), 3) := by decide +kernel
theorem dX8_bits_24 : decode cX8_bits 24 = .ok (.iload_n 1, 1) := by decide +kernel
theorem dX8_bits_25 : decode cX8_bits 25 = .ok (.ireturn, 1) := by decide +kernel
theorem dX8_isRoom_0 : decode cX8_isRoom 0 = .ok (.iload_n 1, 1) := by decide +kernel
theorem dX8_isRoom_1 : decode cX8_isRoom 1 = .ok (.i2l, 1) := by decide +kernel
theorem dX8_isRoom_2 : decode cX8_isRoom 2 = .ok (.lconst 0, 1) := by decide +kernel
theorem dX8_isRoom_3 : decode cX8_isRoom 3 = .ok (.aload_n 0, 1) := by decide +kernel
theorem dX8_isRoom_4 : decode cX8_isRoom 4 = .ok (.getfield 120, 3) := by decide +kernel
theorem dX8_isRoom_7 : decode cX8_isRoom 7 = .ok (.iconst 1, 1) := by decide +kernel
theorem dX8_isRoom_8 : decode cX8_isRoom 8 = .ok (.isub, 1) := by decide +kernel
theorem dX8_isRoom_9 : decode cX8_isRoom 9 = .ok (.i2l, 1) := by decide +kernel
theorem dX8_isRoom_10 : decode cX8_isRoom 10 = .ok (.invokestatic 123, 3) := by decide +kernel
theorem dX8_isRoom_13 : decode cX8_isRoom 13 = .ok (.ireturn, 1) := by decide +kernel
theorem dX8_isPerson_0 : decode cX8_isPerson 0 = .ok (.iload_n 1, 1) := by decide +kernel
theorem dX8_isPerson_1 : decode cX8_isPerson 1 = .ok (.i2l, 1) := by decide +kernel
theorem dX8_isPerson_2 : decode cX8_isPerson 2 = .ok (.lconst 0, 1) := by decide +kernel
theorem dX8_isPerson_3 : decode cX8_isPerson 3 = .ok (.aload_n 0, 1) := by decide +kernel
theorem dX8_isPerson_4 : decode cX8_isPerson 4 = .ok (.getfield 127, 3) := by decide +kernel
theorem dX8_isPerson_7 : decode cX8_isPerson 7 = .ok (.iconst 1, 1) := by decide +kernel
theorem dX8_isPerson_8 : decode cX8_isPerson 8 = .ok (.isub, 1) := by decide +kernel
theorem dX8_isPerson_9 : decode cX8_isPerson 9 = .ok (.i2l, 1) := by decide +kernel
theorem dX8_isPerson_10 : decode cX8_isPerson 10 = .ok (.invokestatic 123, 3) := by decide +kernel
theorem dX8_isPerson_13 : decode cX8_isPerson 13 = .ok (.ireturn, 1) := by decide +kernel
theorem dX8_isPlace_0 : decode cX8_isPlace 0 = .ok (.aload_n 0, 1) := by decide +kernel
theorem dX8_isPlace_1 : decode cX8_isPlace 1 = .ok (.iload_n 1, 1) := by decide +kernel
theorem dX8_isPlace_2 : decode cX8_isPlace 2 = .ok (.invokevirtual 130, 3) := by decide +kernel
theorem dX8_isPlace_5 : decode cX8_isPlace 5 = .ok (.ifCond .eq 25, 3) := by decide +kernel
theorem dX8_isPlace_8 : decode cX8_isPlace 8 = .ok (.iload_n 2, 1) := by decide +kernel
theorem dX8_isPlace_9 : decode cX8_isPlace 9 = .ok (.i2l, 1) := by decide +kernel
theorem dX8_isPlace_10 : decode cX8_isPlace 10 = .ok (.lconst 0, 1) := by decide +kernel
theorem dX8_isPlace_11 : decode cX8_isPlace 11 = .ok (.aload_n 0, 1) := by decide +kernel
theorem dX8_isPlace_12 : decode cX8_isPlace 12 = .ok (.getfield 7, 3) := by decide +kernel
theorem dX8_isPlace_15 : decode cX8_isPlace 15 = .ok (.iload_n 1, 1) := by decide +kernel
theorem dX8_isPlace_16 : decode cX8_isPlace 16 = .ok (.iaload, 1) := by decide +kernel
theorem dX8_isPlace_17 : decode cX8_isPlace 17 = .ok (.iconst 1, 1) := by decide +kernel
theorem dX8_isPlace_18 : decode cX8_isPlace 18 = .ok (.isub, 1) := by decide +kernel
theorem dX8_isPlace_19 : decode cX8_isPlace 19 = .ok (.i2l, 1) := by decide +kernel
theorem dX8_isPlace_20 : decode cX8_isPlace 20 = .ok (.invokestatic 123, 3) := by decide +kernel
theorem dX8_isPlace_23 : decode cX8_isPlace 23 = .ok (.ifCond .eq 7, 3) := by decide +kernel
theorem dX8_isPlace_26 : decode cX8_isPlace 26 = .ok (.iconst 1, 1) := by decide +kernel
theorem dX8_isPlace_27 : decode cX8_isPlace 27 = .ok (.goto 4, 3) := by decide +kernel
theorem dX8_isPlace_30 : decode cX8_isPlace 30 = .ok (.iconst 0, 1) := by decide +kernel
theorem dX8_isPlace_31 : decode cX8_isPlace 31 = .ok (.ireturn, 1) := by decide +kernel
theorem dX8_isSet_0 : decode cX8_isSet 0 = .ok (.iload_n 1, 1) := by decide +kernel
theorem dX8_isSet_1 : decode cX8_isSet 1 = .ok (.i2l, 1) := by decide +kernel
theorem dX8_isSet_2 : decode cX8_isSet 2 = .ok (.lconst 0, 1) := by decide +kernel
theorem dX8_isSet_3 : decode cX8_isSet 3 = .ok (.iconst 1, 1) := by decide +kernel
theorem dX8_isSet_4 : decode cX8_isSet 4 = .ok (.aload_n 0, 1) := by decide +kernel
theorem dX8_isSet_5 : decode cX8_isSet 5 = .ok (.getfield 127, 3) := by decide +kernel
theorem dX8_isSet_8 : decode cX8_isSet 8 = .ok (.ishl, 1) := by decide +kernel
theorem dX8_isSet_9 : decode cX8_isSet 9 = .ok (.iconst 1, 1) := by decide +kernel
theorem dX8_isSet_10 : decode cX8_isSet 10 = .ok (.isub, 1) := by decide +kernel
theorem dX8_isSet_11 : decode cX8_isSet 11 = .ok (.i2l, 1) := by decide +kernel
theorem dX8_isSet_12 : decode cX8_isSet 12 = .ok (.invokestatic 123, 3) := by decide +kernel
theorem dX8_isSet_15 : decode cX8_isSet 15 = .ok (.ireturn, 1) := by decide +kernel
theorem dX8_begin_0 : decode cX8_begin 0 = .ok (.iconst 0, 1) := by decide +kernel
theorem dX8_begin_1 : decode cX8_begin 1 = .ok (.istore_n 1, 1) := by decide +kernel
theorem dX8_begin_2 : decode cX8_begin 2 = .ok (.iload_n 1, 1) := by decide +kernel
theorem dX8_begin_3 : decode cX8_begin 3 = .ok (.bipush 6, 2) := by decide +kernel
theorem dX8_begin_5 : decode cX8_begin 5 = .ok (.if_icmp .ge 54, 3) := by decide +kernel
theorem dX8_begin_8 : decode cX8_begin 8 = .ok (.aload_n 0, 1) := by decide +kernel
theorem dX8_begin_9 : decode cX8_begin 9 = .ok (.getfield 31, 3) := by decide +kernel
theorem dX8_begin_12 : decode cX8_begin 12 = .ok (.iload_n 1, 1) := by decide +kernel
theorem dX8_begin_13 : decode cX8_begin 13 = .ok (.aload_n 0, 1) := by decide +kernel
theorem dX8_begin_14 : decode cX8_begin 14 = .ok (.getfield 16, 3) := by decide +kernel
theorem dX8_begin_17 : decode cX8_begin 17 = .ok (.iload_n 1, 1) := by decide +kernel
theorem dX8_begin_18 : decode cX8_begin 18 = .ok (.iaload, 1) := by decide +kernel
theorem dX8_begin_19 : decode cX8_begin 19 = .ok (.iastore, 1) := by decide +kernel
theorem dX8_begin_20 : decode cX8_begin 20 = .ok (.aload_n 0, 1) := by decide +kernel
theorem dX8_begin_21 : decode cX8_begin 21 = .ok (.getfield 34, 3) := by decide +kernel
theorem dX8_begin_24 : decode cX8_begin 24 = .ok (.iload_n 1, 1) := by decide +kernel
theorem dX8_begin_25 : decode cX8_begin 25 = .ok (.aload_n 0, 1) := by decide +kernel
theorem dX8_begin_26 : decode cX8_begin 26 = .ok (.getfield 19, 3) := by decide +kernel
theorem dX8_begin_29 : decode cX8_begin 29 = .ok (.iload_n 1, 1) := by decide +kernel
theorem dX8_begin_30 : decode cX8_begin 30 = .ok (.iaload, 1) := by decide +kernel
theorem dX8_begin_31 : decode cX8_begin 31 = .ok (.iastore, 1) := by decide +kernel
theorem dX8_begin_32 : decode cX8_begin 32 = .ok (.aload_n 0, 1) := by decide +kernel
theorem dX8_begin_33 : decode cX8_begin 33 = .ok (.getfield 37, 3) := by decide +kernel
theorem dX8_begin_36 : decode cX8_begin 36 = .ok (.iload_n 1, 1) := by decide +kernel
theorem dX8_begin_37 : decode cX8_begin 37 = .ok (.iconst (-1), 1) := by decide +kernel
theorem dX8_begin_38 : decode cX8_begin 38 = .ok (.iastore, 1) := by decide +kernel
theorem dX8_begin_39 : decode cX8_begin 39 = .ok (.aload_n 0, 1) := by decide +kernel
theorem dX8_begin_40 : decode cX8_begin 40 = .ok (.getfield 40, 3) := by decide +kernel
theorem dX8_begin_43 : decode cX8_begin 43 = .ok (.iload_n 1, 1) := by decide +kernel
theorem dX8_begin_44 : decode cX8_begin 44 = .ok (.iconst (-1), 1) := by decide +kernel
theorem dX8_begin_45 : decode cX8_begin 45 = .ok (.iastore, 1) := by decide +kernel
theorem dX8_begin_46 : decode cX8_begin 46 = .ok (.aload_n 0, 1) := by decide +kernel
theorem dX8_begin_47 : decode cX8_begin 47 = .ok (.getfield 43, 3) := by decide +kernel
theorem dX8_begin_50 : decode cX8_begin 50 = .ok (.iload_n 1, 1) := by decide +kernel
theorem dX8_begin_51 : decode cX8_begin 51 = .ok (.iconst 0, 1) := by decide +kernel
theorem dX8_begin_52 : decode cX8_begin 52 = .ok (.iastore, 1) := by decide +kernel
theorem dX8_begin_53 : decode cX8_begin 53 = .ok (.iinc 1 1, 3) := by decide +kernel
theorem dX8_begin_56 : decode cX8_begin 56 = .ok (.goto (-54), 3) := by decide +kernel
theorem dX8_begin_59 : decode cX8_begin 59 = .ok (.return_, 1) := by decide +kernel
theorem dX8_feed_0 : decode cX8_feed 0 = .ok (.iload_n 1, 1) := by decide +kernel
theorem dX8_feed_1 : decode cX8_feed 1 = .ok (.i2l, 1) := by decide +kernel
theorem dX8_feed_2 : decode cX8_feed 2 = .ok (.lconst 1, 1) := by decide +kernel
theorem dX8_feed_3 : decode cX8_feed 3 = .ok (.ldc2_w 134, 3) := by decide +kernel
theorem dX8_feed_6 : decode cX8_feed 6 = .ok (.invokestatic 123, 3) := by decide +kernel
theorem dX8_feed_9 : decode cX8_feed 9 = .ok (.ifCond .ne 6, 3) := by decide +kernel
theorem dX8_feed_12 : decode cX8_feed 12 = .ok (.ldc 136, 2) := by decide +kernel
theorem dX8_feed_14 : decode cX8_feed 14 = .ok (.ireturn, 1) := by decide +kernel
theorem dX8_feed_15 : decode cX8_feed 15 = .ok (.aload_n 0, 1) := by decide +kernel
theorem dX8_feed_16 : decode cX8_feed 16 = .ok (.getfield 137, 3) := by decide +kernel
theorem dX8_feed_19 : decode cX8_feed 19 = .ok (.iload_n 1, 1) := by decide +kernel
theorem dX8_feed_20 : decode cX8_feed 20 = .ok (.iadd, 1) := by decide +kernel
theorem dX8_feed_21 : decode cX8_feed 21 = .ok (.sipush 500, 3) := by decide +kernel
theorem dX8_feed_24 : decode cX8_feed 24 = .ok (.if_icmp .le 6, 3) := by decide +kernel
theorem dX8_feed_27 : decode cX8_feed 27 = .ok (.ldc 140, 2) := by decide +kernel
theorem dX8_feed_29 : decode cX8_feed 29 = .ok (.ireturn, 1) := by decide +kernel
theorem dX8_feed_30 : decode cX8_feed 30 = .ok (.iload_n 1, 1) := by decide +kernel
theorem dX8_feed_31 : decode cX8_feed 31 = .ok (.iconst 1, 1) := by decide +kernel
theorem dX8_feed_32 : decode cX8_feed 32 = .ok (.isub, 1) := by decide +kernel
theorem dX8_feed_33 : decode cX8_feed 33 = .ok (.istore 4, 2) := by decide +kernel
theorem dX8_feed_35 : decode cX8_feed 35 = .ok (.iload 4, 2) := by decide +kernel
theorem dX8_feed_37 : decode cX8_feed 37 = .ok (.ifCond .lt 40, 3) := by decide +kernel
theorem dX8_feed_40 : decode cX8_feed 40 = .ok (.aload_n 0, 1) := by decide +kernel
theorem dX8_feed_41 : decode cX8_feed 41 = .ok (.getfield 46, 3) := by decide +kernel
theorem dX8_feed_44 : decode cX8_feed 44 = .ok (.aload_n 0, 1) := by decide +kernel
theorem dX8_feed_45 : decode cX8_feed 45 = .ok (.getfield 137, 3) := by decide +kernel
theorem dX8_feed_48 : decode cX8_feed 48 = .ok (.lload_n 2, 1) := by decide +kernel
theorem dX8_feed_49 : decode cX8_feed 49 = .ok (.bipush 8, 2) := by decide +kernel
theorem dX8_feed_51 : decode cX8_feed 51 = .ok (.iload 4, 2) := by decide +kernel
theorem dX8_feed_53 : decode cX8_feed 53 = .ok (.imul, 1) := by decide +kernel
theorem dX8_feed_54 : decode cX8_feed 54 = .ok (.lshr, 1) := by decide +kernel
theorem dX8_feed_55 : decode cX8_feed 55 = .ok (.ldc2_w 141, 3) := by decide +kernel
theorem dX8_feed_58 : decode cX8_feed 58 = .ok (.land, 1) := by decide +kernel
theorem dX8_feed_59 : decode cX8_feed 59 = .ok (.l2i, 1) := by decide +kernel
theorem dX8_feed_60 : decode cX8_feed 60 = .ok (.iastore, 1) := by decide +kernel
theorem dX8_feed_61 : decode cX8_feed 61 = .ok (.aload_n 0, 1) := by decide +kernel
theorem dX8_feed_62 : decode cX8_feed 62 = .ok (.dup, 1) := by decide +kernel
theorem dX8_feed_63 : decode cX8_feed 63 = .ok (.getfield 137, 3) := by decide +kernel
theorem dX8_feed_66 : decode cX8_feed 66 = .ok (.iconst 1, 1) := by decide +kernel
theorem dX8_feed_67 : decode cX8_feed 67 = .ok (.iadd, 1) := by decide +kernel
theorem dX8_feed_68 : decode cX8_feed 68 = .ok (.putfield 137, 3) := by decide +kernel
theorem dX8_feed_71 : decode cX8_feed 71 = .ok (.iinc 4 (-1), 3) := by decide +kernel
theorem dX8_feed_74 : decode cX8_feed 74 = .ok (.goto (-39), 3) := by decide +kernel
theorem dX8_feed_77 : decode cX8_feed 77 = .ok (.aload_n 0, 1) := by decide +kernel
theorem dX8_feed_78 : decode cX8_feed 78 = .ok (.getfield 137, 3) := by decide +kernel
theorem dX8_feed_81 : decode cX8_feed 81 = .ok (.ireturn, 1) := by decide +kernel
theorem dX8_here_0 : decode cX8_here 0 = .ok (.aload_n 0, 1) := by decide +kernel
theorem dX8_here_1 : decode cX8_here 1 = .ok (.getfield 143, 3) := by decide +kernel
theorem dX8_here_4 : decode cX8_here 4 = .ok (.aload_n 0, 1) := by decide +kernel
theorem dX8_here_5 : decode cX8_here 5 = .ok (.getfield 137, 3) := by decide +kernel
theorem dX8_here_8 : decode cX8_here 8 = .ok (.if_icmp .ge 30, 3) := by decide +kernel
theorem dX8_here_11 : decode cX8_here 11 = .ok (.aload_n 0, 1) := by decide +kernel
theorem dX8_here_12 : decode cX8_here 12 = .ok (.getfield 46, 3) := by decide +kernel
theorem dX8_here_15 : decode cX8_here 15 = .ok (.aload_n 0, 1) := by decide +kernel
theorem dX8_here_16 : decode cX8_here 16 = .ok (.getfield 143, 3) := by decide +kernel
theorem dX8_here_19 : decode cX8_here 19 = .ok (.iaload, 1) := by decide +kernel
theorem dX8_here_20 : decode cX8_here 20 = .ok (.bipush 32, 2) := by decide +kernel
theorem dX8_here_22 : decode cX8_here 22 = .ok (.if_icmp .ne 16, 3) := by decide +kernel
theorem dX8_here_25 : decode cX8_here 25 = .ok (.aload_n 0, 1) := by decide +kernel
theorem dX8_here_26 : decode cX8_here 26 = .ok (.dup, 1) := by decide +kernel
theorem dX8_here_27 : decode cX8_here 27 = .ok (.getfield 143, 3) := by decide +kernel
theorem dX8_here_30 : decode cX8_here 30 = .ok (.iconst 1, 1) := by decide +kernel
theorem dX8_here_31 : decode cX8_here 31 = .ok (.iadd, 1) := by decide +kernel
theorem dX8_here_32 : decode cX8_here 32 = .ok (.putfield 143, 3) := by decide +kernel
theorem dX8_here_35 : decode cX8_here 35 = .ok (.goto (-35), 3) := by decide +kernel
theorem dX8_here_38 : decode cX8_here 38 = .ok (.aload_n 0, 1) := by decide +kernel
theorem dX8_here_39 : decode cX8_here 39 = .ok (.getfield 143, 3) := by decide +kernel
theorem dX8_here_42 : decode cX8_here 42 = .ok (.aload_n 0, 1) := by decide +kernel
theorem dX8_here_43 : decode cX8_here 43 = .ok (.getfield 137, 3) := by decide +kernel
theorem dX8_here_46 : decode cX8_here 46 = .ok (.if_icmp .ge 15, 3) := by decide +kernel
theorem dX8_here_49 : decode cX8_here 49 = .ok (.aload_n 0, 1) := by decide +kernel
theorem dX8_here_50 : decode cX8_here 50 = .ok (.getfield 46, 3) := by decide +kernel
theorem dX8_here_53 : decode cX8_here 53 = .ok (.aload_n 0, 1) := by decide +kernel
theorem dX8_here_54 : decode cX8_here 54 = .ok (.getfield 143, 3) := by decide +kernel
theorem dX8_here_57 : decode cX8_here 57 = .ok (.iaload, 1) := by decide +kernel
theorem dX8_here_58 : decode cX8_here 58 = .ok (.goto 4, 3) := by decide +kernel
theorem dX8_here_61 : decode cX8_here 61 = .ok (.iconst (-1), 1) := by decide +kernel
theorem dX8_here_62 : decode cX8_here 62 = .ok (.ireturn, 1) := by decide +kernel
theorem dX8_fails_0 : decode cX8_fails 0 = .ok (.aload_n 0, 1) := by decide +kernel
theorem dX8_fails_1 : decode cX8_fails 1 = .ok (.iload_n 2, 1) := by decide +kernel
theorem dX8_fails_2 : decode cX8_fails 2 = .ok (.putfield 49, 3) := by decide +kernel
theorem dX8_fails_5 : decode cX8_fails 5 = .ok (.iload_n 1, 1) := by decide +kernel
theorem dX8_fails_6 : decode cX8_fails 6 = .ok (.ireturn, 1) := by decide +kernel
theorem dX8_readWord_0 : decode cX8_readWord 0 = .ok (.aload_n 0, 1) := by decide +kernel
theorem dX8_readWord_1 : decode cX8_readWord 1 = .ok (.invokevirtual 146, 3) := by decide +kernel
theorem dX8_readWord_4 : decode cX8_readWord 4 = .ok (.istore_n 1, 1) := by decide +kernel
theorem dX8_readWord_5 : decode cX8_readWord 5 = .ok (.aload_n 0, 1) := by decide +kernel
theorem dX8_readWord_6 : decode cX8_readWord 6 = .ok (.lconst 0, 1) := by decide +kernel
theorem dX8_readWord_7 : decode cX8_readWord 7 = .ok (.putfield 150, 3) := by decide +kernel
theorem dX8_readWord_10 : decode cX8_readWord 10 = .ok (.aload_n 0, 1) := by decide +kernel
theorem dX8_readWord_11 : decode cX8_readWord 11 = .ok (.aload_n 0, 1) := by decide +kernel
theorem dX8_readWord_12 : decode cX8_readWord 12 = .ok (.getfield 143, 3) := by decide +kernel
theorem dX8_readWord_15 : decode cX8_readWord 15 = .ok (.putfield 154, 3) := by decide +kernel
theorem dX8_readWord_18 : decode cX8_readWord 18 = .ok (.aload_n 0, 1) := by decide +kernel
theorem dX8_readWord_19 : decode cX8_readWord 19 = .ok (.getfield 154, 3) := by decide +kernel
theorem dX8_readWord_22 : decode cX8_readWord 22 = .ok (.aload_n 0, 1) := by decide +kernel
theorem dX8_readWord_23 : decode cX8_readWord 23 = .ok (.getfield 137, 3) := by decide +kernel
theorem dX8_readWord_26 : decode cX8_readWord 26 = .ok (.if_icmp .ge 82, 3) := by decide +kernel
theorem dX8_readWord_29 : decode cX8_readWord 29 = .ok (.aload_n 0, 1) := by decide +kernel
theorem dX8_readWord_30 : decode cX8_readWord 30 = .ok (.getfield 46, 3) := by decide +kernel
theorem dX8_readWord_33 : decode cX8_readWord 33 = .ok (.aload_n 0, 1) := by decide +kernel
theorem dX8_readWord_34 : decode cX8_readWord 34 = .ok (.getfield 154, 3) := by decide +kernel
theorem dX8_readWord_37 : decode cX8_readWord 37 = .ok (.iaload, 1) := by decide +kernel
theorem dX8_readWord_38 : decode cX8_readWord 38 = .ok (.i2l, 1) := by decide +kernel
theorem dX8_readWord_39 : decode cX8_readWord 39 = .ok (.ldc2_w 157, 3) := by decide +kernel
theorem dX8_readWord_42 : decode cX8_readWord 42 = .ok (.ldc2_w 159, 3) := by decide +kernel
theorem dX8_readWord_45 : decode cX8_readWord 45 = .ok (.invokestatic 123, 3) := by decide +kernel
theorem dX8_readWord_48 : decode cX8_readWord 48 = .ok (.ifCond .eq 60, 3) := by decide +kernel
theorem dX8_readWord_51 : decode cX8_readWord 51 = .ok (.aload_n 0, 1) := by decide +kernel
theorem dX8_readWord_52 : decode cX8_readWord 52 = .ok (.aload_n 0, 1) := by decide +kernel
theorem dX8_readWord_53 : decode cX8_readWord 53 = .ok (.getfield 150, 3) := by decide +kernel
theorem dX8_readWord_56 : decode cX8_readWord 56 = .ok (.ldc2_w 161, 3) := by decide +kernel
theorem dX8_readWord_59 : decode cX8_readWord 59 = .ok (.lcmp, 1) := by decide +kernel
theorem dX8_readWord_60 : decode cX8_readWord 60 = .ok (.ifCond .le 9, 3) := by decide +kernel
theorem dX8_readWord_63 : decode cX8_readWord 63 = .ok (.ldc2_w 163, 3) := by decide +kernel
theorem dX8_readWord_66 : decode cX8_readWord 66 = .ok (.goto 26, 3) := by decide +kernel
theorem dX8_readWord_69 : decode cX8_readWord 69 = .ok (.ldc2_w 165, 3) := by decide +kernel
theorem dX8_readWord_72 : decode cX8_readWord 72 = .ok (.aload_n 0, 1) := by decide +kernel
theorem dX8_readWord_73 : decode cX8_readWord 73 = .ok (.getfield 150, 3) := by decide +kernel
theorem dX8_readWord_76 : decode cX8_readWord 76 = .ok (.lmul, 1) := by decide +kernel
theorem dX8_readWord_77 : decode cX8_readWord 77 = .ok (.aload_n 0, 1) := by decide +kernel
theorem dX8_readWord_78 : decode cX8_readWord 78 = .ok (.getfield 46, 3) := by decide +kernel
theorem dX8_readWord_81 : decode cX8_readWord 81 = .ok (.aload_n 0, 1) := by decide +kernel
theorem dX8_readWord_82 : decode cX8_readWord 82 = .ok (.getfield 154, 3) := by decide +kernel
theorem dX8_readWord_85 : decode cX8_readWord 85 = .ok (.iaload, 1) := by decide +kernel
theorem dX8_readWord_86 : decode cX8_readWord 86 = .ok (.i2l, 1) := by decide +kernel
theorem dX8_readWord_87 : decode cX8_readWord 87 = .ok (.ladd, 1) := by decide +kernel
theorem dX8_readWord_88 : decode cX8_readWord 88 = .ok (.ldc2_w 167, 3) := by decide +kernel
theorem dX8_readWord_91 : decode cX8_readWord 91 = .ok (.lsub, 1) := by decide +kernel
theorem dX8_readWord_92 : decode cX8_readWord 92 = .ok (.putfield 150, 3) := by decide +kernel
theorem dX8_readWord_95 : decode cX8_readWord 95 = .ok (.aload_n 0, 1) := by decide +kernel
theorem dX8_readWord_96 : decode cX8_readWord 96 = .ok (.dup, 1) := by decide +kernel
theorem dX8_readWord_97 : decode cX8_readWord 97 = .ok (.getfield 154, 3) := by decide +kernel
theorem dX8_readWord_100 : decode cX8_readWord 100 = .ok (.iconst 1, 1) := by decide +kernel
theorem dX8_readWord_101 : decode cX8_readWord 101 = .ok (.iadd, 1) := by decide +kernel
theorem dX8_readWord_102 : decode cX8_readWord 102 = .ok (.putfield 154, 3) := by decide +kernel
theorem dX8_readWord_105 : decode cX8_readWord 105 = .ok (.goto (-87), 3) := by decide +kernel
theorem dX8_readWord_108 : decode cX8_readWord 108 = .ok (.return_, 1) := by decide +kernel
theorem dX8_code_0 : decode cX8_code 0 = .ok (.ldc2_w 165, 3) := by decide +kernel
theorem dX8_code_3 : decode cX8_code 3 = .ok (.ldc2_w 165, 3) := by decide +kernel
theorem dX8_code_6 : decode cX8_code 6 = .ok (.ldc2_w 165, 3) := by decide +kernel
theorem dX8_code_9 : decode cX8_code 9 = .ok (.iload_n 0, 1) := by decide +kernel
theorem dX8_code_10 : decode cX8_code 10 = .ok (.i2l, 1) := by decide +kernel
theorem dX8_code_11 : decode cX8_code 11 = .ok (.ldc2_w 167, 3) := by decide +kernel
theorem dX8_code_14 : decode cX8_code 14 = .ok (.lsub, 1) := by decide +kernel
theorem dX8_code_15 : decode cX8_code 15 = .ok (.lmul, 1) := by decide +kernel
theorem dX8_code_16 : decode cX8_code 16 = .ok (.iload_n 1, 1) := by decide +kernel
theorem dX8_code_17 : decode cX8_code 17 = .ok (.i2l, 1) := by decide +kernel
theorem dX8_code_18 : decode cX8_code 18 = .ok (.ladd, 1) := by decide +kernel
theorem dX8_code_19 : decode cX8_code 19 = .ok (.ldc2_w 167, 3) := by decide +kernel
theorem dX8_code_22 : decode cX8_code 22 = .ok (.lsub, 1) := by decide +kernel
theorem dX8_code_23 : decode cX8_code 23 = .ok (.lmul, 1) := by decide +kernel
theorem dX8_code_24 : decode cX8_code 24 = .ok (.iload_n 2, 1) := by decide +kernel
theorem dX8_code_25 : decode cX8_code 25 = .ok (.i2l, 1) := by decide +kernel
theorem dX8_code_26 : decode cX8_code 26 = .ok (.ladd, 1) := by decide +kernel
theorem dX8_code_27 : decode cX8_code 27 = .ok (.ldc2_w 167, 3) := by decide +kernel
theorem dX8_code_30 : decode cX8_code 30 = .ok (.lsub, 1) := by decide +kernel
theorem dX8_code_31 : decode cX8_code 31 = .ok (.lmul, 1) := by decide +kernel
theorem dX8_code_32 : decode cX8_code 32 = .ok (.iload_n 3, 1) := by decide +kernel
theorem dX8_code_33 : decode cX8_code 33 = .ok (.i2l, 1) := by decide +kernel
theorem dX8_code_34 : decode cX8_code 34 = .ok (.ladd, 1) := by decide +kernel
theorem dX8_code_35 : decode cX8_code 35 = .ok (.ldc2_w 167, 3) := by decide +kernel
theorem dX8_code_38 : decode cX8_code 38 = .ok (.lsub, 1) := by decide +kernel
theorem dX8_code_39 : decode cX8_code 39 = .ok (.lreturn, 1) := by decide +kernel
theorem dX8_longer_0 : decode cX8_longer 0 = .ok (.ldc2_w 165, 3) := by decide +kernel
theorem dX8_longer_3 : decode cX8_longer 3 = .ok (.ldc2_w 165, 3) := by decide +kernel
theorem dX8_longer_6 : decode cX8_longer 6 = .ok (.lload_n 0, 1) := by decide +kernel
theorem dX8_longer_7 : decode cX8_longer 7 = .ok (.lmul, 1) := by decide +kernel
theorem dX8_longer_8 : decode cX8_longer 8 = .ok (.iload_n 2, 1) := by decide +kernel
theorem dX8_longer_9 : decode cX8_longer 9 = .ok (.i2l, 1) := by decide +kernel
theorem dX8_longer_10 : decode cX8_longer 10 = .ok (.ladd, 1) := by decide +kernel
theorem dX8_longer_11 : decode cX8_longer 11 = .ok (.ldc2_w 167, 3) := by decide +kernel
theorem dX8_longer_14 : decode cX8_longer 14 = .ok (.lsub, 1) := by decide +kernel
theorem dX8_longer_15 : decode cX8_longer 15 = .ok (.lmul, 1) := by decide +kernel
theorem dX8_longer_16 : decode cX8_longer 16 = .ok (.iload_n 3, 1) := by decide +kernel
theorem dX8_longer_17 : decode cX8_longer 17 = .ok (.i2l, 1) := by decide +kernel
theorem dX8_longer_18 : decode cX8_longer 18 = .ok (.ladd, 1) := by decide +kernel
theorem dX8_longer_19 : decode cX8_longer 19 = .ok (.ldc2_w 167, 3) := by decide +kernel
theorem dX8_longer_22 : decode cX8_longer 22 = .ok (.lsub, 1) := by decide +kernel
theorem dX8_longer_23 : decode cX8_longer 23 = .ok (.lreturn, 1) := by decide +kernel
theorem dX8_takeNumber_0 : decode cX8_takeNumber 0 = .ok (.aload_n 0, 1) := by decide +kernel
theorem dX8_takeNumber_1 : decode cX8_takeNumber 1 = .ok (.invokevirtual 146, 3) := by decide +kernel
theorem dX8_takeNumber_4 : decode cX8_takeNumber 4 = .ok (.istore_n 3, 1) := by decide +kernel
theorem dX8_takeNumber_5 : decode cX8_takeNumber 5 = .ok (.iload_n 3, 1) := by decide +kernel
theorem dX8_takeNumber_6 : decode cX8_takeNumber 6 = .ok (.i2l, 1) := by decide +kernel
theorem dX8_takeNumber_7 : decode cX8_takeNumber 7 = .ok (.ldc2_w 169, 3) := by decide +kernel
theorem dX8_takeNumber_10 : decode cX8_takeNumber 10 = .ok (.ldc2_w 171, 3) := by decide +kernel
theorem dX8_takeNumber_13 : decode cX8_takeNumber 13 = .ok (.invokestatic 123, 3) := by decide +kernel
theorem dX8_takeNumber_16 : decode cX8_takeNumber 16 = .ok (.ifCond .ne 13, 3) := by decide +kernel
theorem dX8_takeNumber_19 : decode cX8_takeNumber 19 = .ok (.aload_n 0, 1) := by decide +kernel
theorem dX8_takeNumber_20 : decode cX8_takeNumber 20 = .ok (.iconst 1, 1) := by decide +kernel
theorem dX8_takeNumber_21 : decode cX8_takeNumber 21 = .ok (.aload_n 0, 1) := by decide +kernel
theorem dX8_takeNumber_22 : decode cX8_takeNumber 22 = .ok (.getfield 143, 3) := by decide +kernel
theorem dX8_takeNumber_25 : decode cX8_takeNumber 25 = .ok (.invokevirtual 173, 3) := by decide +kernel
theorem dX8_takeNumber_28 : decode cX8_takeNumber 28 = .ok (.ireturn, 1) := by decide +kernel
theorem dX8_takeNumber_29 : decode cX8_takeNumber 29 = .ok (.aload_n 0, 1) := by decide +kernel
theorem dX8_takeNumber_30 : decode cX8_takeNumber 30 = .ok (.aload_n 0, 1) := by decide +kernel
theorem dX8_takeNumber_31 : decode cX8_takeNumber 31 = .ok (.getfield 143, 3) := by decide +kernel
theorem dX8_takeNumber_34 : decode cX8_takeNumber 34 = .ok (.putfield 177, 3) := by decide +kernel
theorem dX8_takeNumber_37 : decode cX8_takeNumber 37 = .ok (.aload_n 0, 1) := by decide +kernel
theorem dX8_takeNumber_38 : decode cX8_takeNumber 38 = .ok (.iconst 0, 1) := by decide +kernel
theorem dX8_takeNumber_39 : decode cX8_takeNumber 39 = .ok (.putfield 180, 3) := by decide +kernel
theorem dX8_takeNumber_42 : decode cX8_takeNumber 42 = .ok (.aload_n 0, 1) := by decide +kernel
theorem dX8_takeNumber_43 : decode cX8_takeNumber 43 = .ok (.getfield 143, 3) := by decide +kernel
theorem dX8_takeNumber_46 : decode cX8_takeNumber 46 = .ok (.aload_n 0, 1) := by decide +kernel
theorem dX8_takeNumber_47 : decode cX8_takeNumber 47 = .ok (.getfield 137, 3) := by decide +kernel
theorem dX8_takeNumber_50 : decode cX8_takeNumber 50 = .ok (.if_icmp .ge 79, 3) := by decide +kernel
theorem dX8_takeNumber_53 : decode cX8_takeNumber 53 = .ok (.aload_n 0, 1) := by decide +kernel
theorem dX8_takeNumber_54 : decode cX8_takeNumber 54 = .ok (.getfield 46, 3) := by decide +kernel
theorem dX8_takeNumber_57 : decode cX8_takeNumber 57 = .ok (.aload_n 0, 1) := by decide +kernel
theorem dX8_takeNumber_58 : decode cX8_takeNumber 58 = .ok (.getfield 143, 3) := by decide +kernel
theorem dX8_takeNumber_61 : decode cX8_takeNumber 61 = .ok (.iaload, 1) := by decide +kernel
theorem dX8_takeNumber_62 : decode cX8_takeNumber 62 = .ok (.i2l, 1) := by decide +kernel
theorem dX8_takeNumber_63 : decode cX8_takeNumber 63 = .ok (.ldc2_w 169, 3) := by decide +kernel
theorem dX8_takeNumber_66 : decode cX8_takeNumber 66 = .ok (.ldc2_w 171, 3) := by decide +kernel
theorem dX8_takeNumber_69 : decode cX8_takeNumber 69 = .ok (.invokestatic 123, 3) := by decide +kernel
theorem dX8_takeNumber_72 : decode cX8_takeNumber 72 = .ok (.ifCond .eq 57, 3) := by decide +kernel
theorem dX8_takeNumber_75 : decode cX8_takeNumber 75 = .ok (.aload_n 0, 1) := by decide +kernel
theorem dX8_takeNumber_76 : decode cX8_takeNumber 76 = .ok (.aload_n 0, 1) := by decide +kernel
theorem dX8_takeNumber_77 : decode cX8_takeNumber 77 = .ok (.getfield 180, 3) := by decide +kernel
theorem dX8_takeNumber_80 : decode cX8_takeNumber 80 = .ok (.sipush 10000, 3) := by decide +kernel
theorem dX8_takeNumber_83 : decode cX8_takeNumber 83 = .ok (.if_icmp .le 10, 3) := by decide +kernel
theorem dX8_takeNumber_86 : decode cX8_takeNumber 86 = .ok (.aload_n 0, 1) := by decide +kernel
theorem dX8_takeNumber_87 : decode cX8_takeNumber 87 = .ok (.getfield 180, 3) := by decide +kernel
theorem dX8_takeNumber_90 : decode cX8_takeNumber 90 = .ok (.goto 23, 3) := by decide +kernel
theorem dX8_takeNumber_93 : decode cX8_takeNumber 93 = .ok (.bipush 10, 2) := by decide +kernel
theorem dX8_takeNumber_95 : decode cX8_takeNumber 95 = .ok (.aload_n 0, 1) := by decide +kernel
theorem dX8_takeNumber_96 : decode cX8_takeNumber 96 = .ok (.getfield 180, 3) := by decide +kernel
theorem dX8_takeNumber_99 : decode cX8_takeNumber 99 = .ok (.imul, 1) := by decide +kernel
theorem dX8_takeNumber_100 : decode cX8_takeNumber 100 = .ok (.aload_n 0, 1) := by decide +kernel
theorem dX8_takeNumber_101 : decode cX8_takeNumber 101 = .ok (.getfield 46, 3) := by decide +kernel
theorem dX8_takeNumber_104 : decode cX8_takeNumber 104 = .ok (.aload_n 0, 1) := by decide +kernel
theorem dX8_takeNumber_105 : decode cX8_takeNumber 105 = .ok (.getfield 143, 3) := by decide +kernel
theorem dX8_takeNumber_108 : decode cX8_takeNumber 108 = .ok (.iaload, 1) := by decide +kernel
theorem dX8_takeNumber_109 : decode cX8_takeNumber 109 = .ok (.iadd, 1) := by decide +kernel
theorem dX8_takeNumber_110 : decode cX8_takeNumber 110 = .ok (.bipush 48, 2) := by decide +kernel
theorem dX8_takeNumber_112 : decode cX8_takeNumber 112 = .ok (.isub, 1) := by decide +kernel
theorem dX8_takeNumber_113 : decode cX8_takeNumber 113 = .ok (.putfield 180, 3) := by decide +kernel
theorem dX8_takeNumber_116 : decode cX8_takeNumber 116 = .ok (.aload_n 0, 1) := by decide +kernel
theorem dX8_takeNumber_117 : decode cX8_takeNumber 117 = .ok (.dup, 1) := by decide +kernel
theorem dX8_takeNumber_118 : decode cX8_takeNumber 118 = .ok (.getfield 143, 3) := by decide +kernel
theorem dX8_takeNumber_121 : decode cX8_takeNumber 121 = .ok (.iconst 1, 1) := by decide +kernel
theorem dX8_takeNumber_122 : decode cX8_takeNumber 122 = .ok (.iadd, 1) := by decide +kernel
theorem dX8_takeNumber_123 : decode cX8_takeNumber 123 = .ok (.putfield 143, 3) := by decide +kernel
theorem dX8_takeNumber_126 : decode cX8_takeNumber 126 = .ok (.goto (-84), 3) := by decide +kernel
theorem dX8_takeNumber_129 : decode cX8_takeNumber 129 = .ok (.aload_n 0, 1) := by decide +kernel
theorem dX8_takeNumber_130 : decode cX8_takeNumber 130 = .ok (.getfield 143, 3) := by decide +kernel
theorem dX8_takeNumber_133 : decode cX8_takeNumber 133 = .ok (.aload_n 0, 1) := by decide +kernel
theorem dX8_takeNumber_134 : decode cX8_takeNumber 134 = .ok (.getfield 177, 3) := by decide +kernel
theorem dX8_takeNumber_137 : decode cX8_takeNumber 137 = .ok (.isub, 1) := by decide +kernel
theorem dX8_takeNumber_138 : decode cX8_takeNumber 138 = .ok (.iconst 3, 1) := by decide +kernel
theorem dX8_takeNumber_139 : decode cX8_takeNumber 139 = .ok (.if_icmp .gt 18, 3) := by decide +kernel
theorem dX8_takeNumber_142 : decode cX8_takeNumber 142 = .ok (.aload_n 0, 1) := by decide +kernel
theorem dX8_takeNumber_143 : decode cX8_takeNumber 143 = .ok (.getfield 180, 3) := by decide +kernel
theorem dX8_takeNumber_146 : decode cX8_takeNumber 146 = .ok (.i2l, 1) := by decide +kernel
theorem dX8_takeNumber_147 : decode cX8_takeNumber 147 = .ok (.iload_n 1, 1) := by decide +kernel
theorem dX8_takeNumber_148 : decode cX8_takeNumber 148 = .ok (.i2l, 1) := by decide +kernel
theorem dX8_takeNumber_149 : decode cX8_takeNumber 149 = .ok (.iload_n 2, 1) := by decide +kernel
theorem dX8_takeNumber_150 : decode cX8_takeNumber 150 = .ok (.i2l, 1) := by decide +kernel
theorem dX8_takeNumber_151 : decode cX8_takeNumber 151 = .ok (.invokestatic 123, 3) := by decide +kernel
theorem dX8_takeNumber_154 : decode cX8_takeNumber 154 = .ok (.ifCond .ne 15, 3) := by decide +kernel
theorem dX8_takeNumber_157 : decode cX8_takeNumber 157 = .ok (.aload_n 0, 1) := by decide +kernel
theorem dX8_takeNumber_158 : decode cX8_takeNumber 158 = .ok (.iconst 2, 1) := by decide +kernel
theorem dX8_takeNumber_159 : decode cX8_takeNumber 159 = .ok (.aload_n 0, 1) := by decide +kernel
theorem dX8_takeNumber_160 : decode cX8_takeNumber 160 = .ok (.getfield 177, 3) := by decide +kernel
theorem dX8_takeNumber_163 : decode cX8_takeNumber 163 = .ok (.invokevirtual 173, 3) := by decide +kernel
theorem dX8_takeNumber_166 : decode cX8_takeNumber 166 = .ok (.goto 4, 3) := by decide +kernel
theorem dX8_takeNumber_169 : decode cX8_takeNumber 169 = .ok (.iconst 0, 1) := by decide +kernel
theorem dX8_takeNumber_170 : decode cX8_takeNumber 170 = .ok (.ireturn, 1) := by decide +kernel
theorem dX8_into_0 : decode cX8_into 0 = .ok (.aload_n 0, 1) := by decide +kernel
theorem dX8_into_1 : decode cX8_into 1 = .ok (.iload_n 3, 1) := by decide +kernel
theorem dX8_into_2 : decode cX8_into 2 = .ok (.iload 4, 2) := by decide +kernel
theorem dX8_into_4 : decode cX8_into 4 = .ok (.invokevirtual 183, 3) := by decide +kernel
theorem dX8_into_7 : decode cX8_into 7 = .ok (.istore 5, 2) := by decide +kernel
theorem dX8_into_9 : decode cX8_into 9 = .ok (.aload_n 1, 1) := by decide +kernel
theorem dX8_into_10 : decode cX8_into 10 = .ok (.iload_n 2, 1) := by decide +kernel
theorem dX8_into_11 : decode cX8_into 11 = .ok (.aload_n 0, 1) := by decide +kernel
theorem dX8_into_12 : decode cX8_into 12 = .ok (.getfield 180, 3) := by decide +kernel
theorem dX8_into_15 : decode cX8_into 15 = .ok (.iastore, 1) := by decide +kernel
theorem dX8_into_16 : decode cX8_into 16 = .ok (.iload 5, 2) := by decide +kernel
theorem dX8_into_18 : decode cX8_into 18 = .ok (.ireturn, 1) := by decide +kernel
theorem dX8_takeRoom_0 : decode cX8_takeRoom 0 = .ok (.aload_n 0, 1) := by decide +kernel
theorem dX8_takeRoom_1 : decode cX8_takeRoom 1 = .ok (.getfield 186, 3) := by decide +kernel
theorem dX8_takeRoom_4 : decode cX8_takeRoom 4 = .ok (.istore_n 1, 1) := by decide +kernel
theorem dX8_takeRoom_5 : decode cX8_takeRoom 5 = .ok (.aload_n 0, 1) := by decide +kernel
theorem dX8_takeRoom_6 : decode cX8_takeRoom 6 = .ok (.dup, 1) := by decide +kernel
theorem dX8_takeRoom_7 : decode cX8_takeRoom 7 = .ok (.getfield 186, 3) := by decide +kernel
theorem dX8_takeRoom_10 : decode cX8_takeRoom 10 = .ok (.iconst 1, 1) := by decide +kernel
theorem dX8_takeRoom_11 : decode cX8_takeRoom 11 = .ok (.iadd, 1) := by decide +kernel
theorem dX8_takeRoom_12 : decode cX8_takeRoom 12 = .ok (.putfield 186, 3) := by decide +kernel
theorem dX8_takeRoom_15 : decode cX8_takeRoom 15 = .ok (.aload_n 0, 1) := by decide +kernel
theorem dX8_takeRoom_16 : decode cX8_takeRoom 16 = .ok (.getfield 53, 3) := by decide +kernel
theorem dX8_takeRoom_19 : decode cX8_takeRoom 19 = .ok (.iload_n 1, 1) := by decide +kernel
theorem dX8_takeRoom_20 : decode cX8_takeRoom 20 = .ok (.iconst 0, 1) := by decide +kernel
theorem dX8_takeRoom_21 : decode cX8_takeRoom 21 = .ok (.iastore, 1) := by decide +kernel
theorem dX8_takeRoom_22 : decode cX8_takeRoom 22 = .ok (.iconst 1, 1) := by decide +kernel
theorem dX8_takeRoom_23 : decode cX8_takeRoom 23 = .ok (.istore_n 2, 1) := by decide +kernel
theorem dX8_takeRoom_24 : decode cX8_takeRoom 24 = .ok (.iload_n 2, 1) := by decide +kernel
theorem dX8_takeRoom_25 : decode cX8_takeRoom 25 = .ok (.ifCond .eq 104, 3) := by decide +kernel
theorem dX8_takeRoom_28 : decode cX8_takeRoom 28 = .ok (.aload_n 0, 1) := by decide +kernel
theorem dX8_takeRoom_29 : decode cX8_takeRoom 29 = .ok (.iconst 0, 1) := by decide +kernel
theorem dX8_takeRoom_30 : decode cX8_takeRoom 30 = .ok (.bipush 40, 2) := by decide +kernel
theorem dX8_takeRoom_32 : decode cX8_takeRoom 32 = .ok (.invokevirtual 183, 3) := by decide +kernel
theorem dX8_takeRoom_35 : decode cX8_takeRoom 35 = .ok (.istore_n 3, 1) := by decide +kernel
theorem dX8_takeRoom_36 : decode cX8_takeRoom 36 = .ok (.iload_n 3, 1) := by decide +kernel
theorem dX8_takeRoom_37 : decode cX8_takeRoom 37 = .ok (.ifCond .le 5, 3) := by decide +kernel
theorem dX8_takeRoom_40 : decode cX8_takeRoom 40 = .ok (.iload_n 3, 1) := by decide +kernel
theorem dX8_takeRoom_41 : decode cX8_takeRoom 41 = .ok (.ireturn, 1) := by decide +kernel
theorem dX8_takeRoom_42 : decode cX8_takeRoom 42 = .ok (.aload_n 0, 1) := by decide +kernel
theorem dX8_takeRoom_43 : decode cX8_takeRoom 43 = .ok (.getfield 53, 3) := by decide +kernel
theorem dX8_takeRoom_46 : decode cX8_takeRoom 46 = .ok (.iload_n 1, 1) := by decide +kernel
theorem dX8_takeRoom_47 : decode cX8_takeRoom 47 = .ok (.iaload, 1) := by decide +kernel
theorem dX8_takeRoom_48 : decode cX8_takeRoom 48 = .ok (.bipush 6, 2) := by decide +kernel
theorem dX8_takeRoom_50 : decode cX8_takeRoom 50 = .ok (.if_icmp .ne 13, 3) := by decide +kernel
theorem dX8_takeRoom_53 : decode cX8_takeRoom 53 = .ok (.aload_n 0, 1) := by decide +kernel
theorem dX8_takeRoom_54 : decode cX8_takeRoom 54 = .ok (.iconst 4, 1) := by decide +kernel
theorem dX8_takeRoom_55 : decode cX8_takeRoom 55 = .ok (.aload_n 0, 1) := by decide +kernel
theorem dX8_takeRoom_56 : decode cX8_takeRoom 56 = .ok (.getfield 177, 3) := by decide +kernel
theorem dX8_takeRoom_59 : decode cX8_takeRoom 59 = .ok (.invokevirtual 173, 3) := by decide +kernel
theorem dX8_takeRoom_62 : decode cX8_takeRoom 62 = .ok (.ireturn, 1) := by decide +kernel
theorem dX8_takeRoom_63 : decode cX8_takeRoom 63 = .ok (.aload_n 0, 1) := by decide +kernel
theorem dX8_takeRoom_64 : decode cX8_takeRoom 64 = .ok (.getfield 56, 3) := by decide +kernel
theorem dX8_takeRoom_67 : decode cX8_takeRoom 67 = .ok (.bipush 6, 2) := by decide +kernel
theorem dX8_takeRoom_69 : decode cX8_takeRoom 69 = .ok (.iload_n 1, 1) := by decide +kernel
theorem dX8_takeRoom_70 : decode cX8_takeRoom 70 = .ok (.imul, 1) := by decide +kernel
theorem dX8_takeRoom_71 : decode cX8_takeRoom 71 = .ok (.aload_n 0, 1) := by decide +kernel
theorem dX8_takeRoom_72 : decode cX8_takeRoom 72 = .ok (.getfield 53, 3) := by decide +kernel
theorem dX8_takeRoom_75 : decode cX8_takeRoom 75 = .ok (.iload_n 1, 1) := by decide +kernel
theorem dX8_takeRoom_76 : decode cX8_takeRoom 76 = .ok (.iaload, 1) := by decide +kernel
theorem dX8_takeRoom_77 : decode cX8_takeRoom 77 = .ok (.iadd, 1) := by decide +kernel
theorem dX8_takeRoom_78 : decode cX8_takeRoom 78 = .ok (.aload_n 0, 1) := by decide +kernel
theorem dX8_takeRoom_79 : decode cX8_takeRoom 79 = .ok (.getfield 180, 3) := by decide +kernel
theorem dX8_takeRoom_82 : decode cX8_takeRoom 82 = .ok (.iastore, 1) := by decide +kernel
theorem dX8_takeRoom_83 : decode cX8_takeRoom 83 = .ok (.aload_n 0, 1) := by decide +kernel
theorem dX8_takeRoom_84 : decode cX8_takeRoom 84 = .ok (.getfield 53, 3) := by decide +kernel
theorem dX8_takeRoom_87 : decode cX8_takeRoom 87 = .ok (.iload_n 1, 1) := by decide +kernel
theorem dX8_takeRoom_88 : decode cX8_takeRoom 88 = .ok (.dup2, 1) := by decide +kernel
theorem dX8_takeRoom_89 : decode cX8_takeRoom 89 = .ok (.iaload, 1) := by decide +kernel
theorem dX8_takeRoom_90 : decode cX8_takeRoom 90 = .ok (.iconst 1, 1) := by decide +kernel
theorem dX8_takeRoom_91 : decode cX8_takeRoom 91 = .ok (.iadd, 1) := by decide +kernel
theorem dX8_takeRoom_92 : decode cX8_takeRoom 92 = .ok (.iastore, 1) := by decide +kernel
theorem dX8_takeRoom_93 : decode cX8_takeRoom 93 = .ok (.aload_n 0, 1) := by decide +kernel
theorem dX8_takeRoom_94 : decode cX8_takeRoom 94 = .ok (.invokevirtual 146, 3) := by decide +kernel
theorem dX8_takeRoom_97 : decode cX8_takeRoom 97 = .ok (.bipush 44, 2) := by decide +kernel
theorem dX8_takeRoom_99 : decode cX8_takeRoom 99 = .ok (.if_icmp .ne 7, 3) := by decide +kernel
theorem dX8_takeRoom_102 : decode cX8_takeRoom 102 = .ok (.iconst 1, 1) := by decide +kernel
theorem dX8_takeRoom_103 : decode cX8_takeRoom 103 = .ok (.goto 4, 3) := by decide +kernel
theorem dX8_takeRoom_106 : decode cX8_takeRoom 106 = .ok (.iconst 0, 1) := by decide +kernel
theorem dX8_takeRoom_107 : decode cX8_takeRoom 107 = .ok (.istore_n 2, 1) := by decide +kernel
theorem dX8_takeRoom_108 : decode cX8_takeRoom 108 = .ok (.aload_n 0, 1) := by decide +kernel
theorem dX8_takeRoom_109 : decode cX8_takeRoom 109 = .ok (.dup, 1) := by decide +kernel
theorem dX8_takeRoom_110 : decode cX8_takeRoom 110 = .ok (.getfield 143, 3) := by decide +kernel
theorem dX8_takeRoom_113 : decode cX8_takeRoom 113 = .ok (.iload_n 2, 1) := by decide +kernel
theorem dX8_takeRoom_114 : decode cX8_takeRoom 114 = .ok (.ifCond .eq 7, 3) := by decide +kernel
theorem dX8_takeRoom_117 : decode cX8_takeRoom 117 = .ok (.iconst 1, 1) := by decide +kernel
theorem dX8_takeRoom_118 : decode cX8_takeRoom 118 = .ok (.goto 4, 3) := by decide +kernel
theorem dX8_takeRoom_121 : decode cX8_takeRoom 121 = .ok (.iconst 0, 1) := by decide +kernel
theorem dX8_takeRoom_122 : decode cX8_takeRoom 122 = .ok (.iadd, 1) := by decide +kernel
theorem dX8_takeRoom_123 : decode cX8_takeRoom 123 = .ok (.putfield 143, 3) := by decide +kernel
theorem dX8_takeRoom_126 : decode cX8_takeRoom 126 = .ok (.goto (-102), 3) := by decide +kernel
theorem dX8_takeRoom_129 : decode cX8_takeRoom 129 = .ok (.iconst 0, 1) := by decide +kernel
theorem dX8_takeRoom_130 : decode cX8_takeRoom 130 = .ok (.ireturn, 1) := by decide +kernel
theorem dX8_takePerson_0 : decode cX8_takePerson 0 = .ok (.aload_n 0, 1) := by decide +kernel
theorem dX8_takePerson_1 : decode cX8_takePerson 1 = .ok (.getfield 189, 3) := by decide +kernel
theorem dX8_takePerson_4 : decode cX8_takePerson 4 = .ok (.istore_n 1, 1) := by decide +kernel
theorem dX8_takePerson_5 : decode cX8_takePerson 5 = .ok (.aload_n 0, 1) := by decide +kernel
theorem dX8_takePerson_6 : decode cX8_takePerson 6 = .ok (.aload_n 0, 1) := by decide +kernel
theorem dX8_takePerson_7 : decode cX8_takePerson 7 = .ok (.getfield 59, 3) := by decide +kernel
theorem dX8_takePerson_10 : decode cX8_takePerson 10 = .ok (.iload_n 1, 1) := by decide +kernel
theorem dX8_takePerson_11 : decode cX8_takePerson 11 = .ok (.iconst 0, 1) := by decide +kernel
theorem dX8_takePerson_12 : decode cX8_takePerson 12 = .ok (.bipush 99, 2) := by decide +kernel
theorem dX8_takePerson_14 : decode cX8_takePerson 14 = .ok (.invokevirtual 192, 3) := by decide +kernel
theorem dX8_takePerson_17 : decode cX8_takePerson 17 = .ok (.istore_n 2, 1) := by decide +kernel
theorem dX8_takePerson_18 : decode cX8_takePerson 18 = .ok (.iconst 0, 1) := by decide +kernel
theorem dX8_takePerson_19 : decode cX8_takePerson 19 = .ok (.istore_n 3, 1) := by decide +kernel
theorem dX8_takePerson_20 : decode cX8_takePerson 20 = .ok (.iload_n 3, 1) := by decide +kernel
theorem dX8_takePerson_21 : decode cX8_takePerson 21 = .ok (.iload_n 1, 1) := by decide +kernel
theorem dX8_takePerson_22 : decode cX8_takePerson 22 = .ok (.if_icmp .ge 40, 3) := by decide +kernel
theorem dX8_takePerson_25 : decode cX8_takePerson 25 = .ok (.iload_n 2, 1) := by decide +kernel
theorem dX8_takePerson_26 : decode cX8_takePerson 26 = .ok (.ifCond .ne 36, 3) := by decide +kernel
theorem dX8_takePerson_29 : decode cX8_takePerson 29 = .ok (.aload_n 0, 1) := by decide +kernel
theorem dX8_takePerson_30 : decode cX8_takePerson 30 = .ok (.getfield 59, 3) := by decide +kernel
theorem dX8_takePerson_33 : decode cX8_takePerson 33 = .ok (.iload_n 3, 1) := by decide +kernel
theorem dX8_takePerson_34 : decode cX8_takePerson 34 = .ok (.iaload, 1) := by decide +kernel
theorem dX8_takePerson_35 : decode cX8_takePerson 35 = .ok (.aload_n 0, 1) := by decide +kernel
theorem dX8_takePerson_36 : decode cX8_takePerson 36 = .ok (.getfield 180, 3) := by decide +kernel
theorem dX8_takePerson_39 : decode cX8_takePerson 39 = .ok (.if_icmp .ne 15, 3) := by decide +kernel
theorem dX8_takePerson_42 : decode cX8_takePerson 42 = .ok (.aload_n 0, 1) := by decide +kernel
theorem dX8_takePerson_43 : decode cX8_takePerson 43 = .ok (.iconst 4, 1) := by decide +kernel
theorem dX8_takePerson_44 : decode cX8_takePerson 44 = .ok (.aload_n 0, 1) := by decide +kernel
theorem dX8_takePerson_45 : decode cX8_takePerson 45 = .ok (.getfield 177, 3) := by decide +kernel
theorem dX8_takePerson_48 : decode cX8_takePerson 48 = .ok (.invokevirtual 173, 3) := by decide +kernel
theorem dX8_takePerson_51 : decode cX8_takePerson 51 = .ok (.goto 4, 3) := by decide +kernel
theorem dX8_takePerson_54 : decode cX8_takePerson 54 = .ok (.iconst 0, 1) := by decide +kernel
theorem dX8_takePerson_55 : decode cX8_takePerson 55 = .ok (.istore_n 2, 1) := by decide +kernel
theorem dX8_takePerson_56 : decode cX8_takePerson 56 = .ok (.iinc 3 1, 3) := by decide +kernel
theorem dX8_takePerson_59 : decode cX8_takePerson 59 = .ok (.goto (-39), 3) := by decide +kernel
theorem dX8_takePerson_62 : decode cX8_takePerson 62 = .ok (.iload_n 2, 1) := by decide +kernel
theorem dX8_takePerson_63 : decode cX8_takePerson 63 = .ok (.ifCond .le 7, 3) := by decide +kernel
theorem dX8_takePerson_66 : decode cX8_takePerson 66 = .ok (.iload_n 2, 1) := by decide +kernel
theorem dX8_takePerson_67 : decode cX8_takePerson 67 = .ok (.goto 16, 3) := by decide +kernel
theorem dX8_takePerson_70 : decode cX8_takePerson 70 = .ok (.aload_n 0, 1) := by decide +kernel
theorem dX8_takePerson_71 : decode cX8_takePerson 71 = .ok (.aload_n 0, 1) := by decide +kernel
theorem dX8_takePerson_72 : decode cX8_takePerson 72 = .ok (.getfield 62, 3) := by decide +kernel
theorem dX8_takePerson_75 : decode cX8_takePerson 75 = .ok (.iload_n 1, 1) := by decide +kernel
theorem dX8_takePerson_76 : decode cX8_takePerson 76 = .ok (.bipush 20, 2) := by decide +kernel
theorem dX8_takePerson_78 : decode cX8_takePerson 78 = .ok (.bipush 90, 2) := by decide +kernel
theorem dX8_takePerson_80 : decode cX8_takePerson 80 = .ok (.invokevirtual 192, 3) := by decide +kernel
theorem dX8_takePerson_83 : decode cX8_takePerson 83 = .ok (.istore_n 2, 1) := by decide +kernel
theorem dX8_takePerson_84 : decode cX8_takePerson 84 = .ok (.iload_n 2, 1) := by decide +kernel
theorem dX8_takePerson_85 : decode cX8_takePerson 85 = .ok (.ifCond .le 7, 3) := by decide +kernel
theorem dX8_takePerson_88 : decode cX8_takePerson 88 = .ok (.iload_n 2, 1) := by decide +kernel
theorem dX8_takePerson_89 : decode cX8_takePerson 89 = .ok (.goto 15, 3) := by decide +kernel
theorem dX8_takePerson_92 : decode cX8_takePerson 92 = .ok (.aload_n 0, 1) := by decide +kernel
theorem dX8_takePerson_93 : decode cX8_takePerson 93 = .ok (.aload_n 0, 1) := by decide +kernel
theorem dX8_takePerson_94 : decode cX8_takePerson 94 = .ok (.getfield 65, 3) := by decide +kernel
theorem dX8_takePerson_97 : decode cX8_takePerson 97 = .ok (.iload_n 1, 1) := by decide +kernel
theorem dX8_takePerson_98 : decode cX8_takePerson 98 = .ok (.iconst 0, 1) := by decide +kernel
theorem dX8_takePerson_99 : decode cX8_takePerson 99 = .ok (.bipush 40, 2) := by decide +kernel
theorem dX8_takePerson_101 : decode cX8_takePerson 101 = .ok (.invokevirtual 192, 3) := by decide +kernel
theorem dX8_takePerson_104 : decode cX8_takePerson 104 = .ok (.istore_n 2, 1) := by decide +kernel
theorem dX8_takePerson_105 : decode cX8_takePerson 105 = .ok (.iload_n 2, 1) := by decide +kernel
theorem dX8_takePerson_106 : decode cX8_takePerson 106 = .ok (.ifCond .le 7, 3) := by decide +kernel
theorem dX8_takePerson_109 : decode cX8_takePerson 109 = .ok (.iload_n 2, 1) := by decide +kernel
theorem dX8_takePerson_110 : decode cX8_takePerson 110 = .ok (.goto 15, 3) := by decide +kernel
theorem dX8_takePerson_113 : decode cX8_takePerson 113 = .ok (.aload_n 0, 1) := by decide +kernel
theorem dX8_takePerson_114 : decode cX8_takePerson 114 = .ok (.aload_n 0, 1) := by decide +kernel
theorem dX8_takePerson_115 : decode cX8_takePerson 115 = .ok (.getfield 68, 3) := by decide +kernel
theorem dX8_takePerson_118 : decode cX8_takePerson 118 = .ok (.iload_n 1, 1) := by decide +kernel
theorem dX8_takePerson_119 : decode cX8_takePerson 119 = .ok (.iconst 0, 1) := by decide +kernel
theorem dX8_takePerson_120 : decode cX8_takePerson 120 = .ok (.bipush 9, 2) := by decide +kernel
theorem dX8_takePerson_122 : decode cX8_takePerson 122 = .ok (.invokevirtual 192, 3) := by decide +kernel
theorem dX8_takePerson_125 : decode cX8_takePerson 125 = .ok (.istore_n 2, 1) := by decide +kernel
theorem dX8_takePerson_126 : decode cX8_takePerson 126 = .ok (.aload_n 0, 1) := by decide +kernel
theorem dX8_takePerson_127 : decode cX8_takePerson 127 = .ok (.dup, 1) := by decide +kernel
theorem dX8_takePerson_128 : decode cX8_takePerson 128 = .ok (.getfield 189, 3) := by decide +kernel
theorem dX8_takePerson_131 : decode cX8_takePerson 131 = .ok (.iconst 1, 1) := by decide +kernel
theorem dX8_takePerson_132 : decode cX8_takePerson 132 = .ok (.iadd, 1) := by decide +kernel
theorem dX8_takePerson_133 : decode cX8_takePerson 133 = .ok (.putfield 189, 3) := by decide +kernel
theorem dX8_takePerson_136 : decode cX8_takePerson 136 = .ok (.iload_n 2, 1) := by decide +kernel
theorem dX8_takePerson_137 : decode cX8_takePerson 137 = .ok (.ireturn, 1) := by decide +kernel
theorem dX8_takeFriends_0 : decode cX8_takeFriends 0 = .ok (.aload_n 0, 1) := by decide +kernel
theorem dX8_takeFriends_1 : decode cX8_takeFriends 1 = .ok (.iconst 0, 1) := by decide +kernel
theorem dX8_takeFriends_2 : decode cX8_takeFriends 2 = .ok (.aload_n 0, 1) := by decide +kernel
theorem dX8_takeFriends_3 : decode cX8_takeFriends 3 = .ok (.getfield 189, 3) := by decide +kernel
theorem dX8_takeFriends_6 : decode cX8_takeFriends 6 = .ok (.iconst 1, 1) := by decide +kernel
theorem dX8_takeFriends_7 : decode cX8_takeFriends 7 = .ok (.isub, 1) := by decide +kernel
theorem dX8_takeFriends_8 : decode cX8_takeFriends 8 = .ok (.invokevirtual 183, 3) := by decide +kernel
theorem dX8_takeFriends_11 : decode cX8_takeFriends 11 = .ok (.istore_n 1, 1) := by decide +kernel
theorem dX8_takeFriends_12 : decode cX8_takeFriends 12 = .ok (.aload_n 0, 1) := by decide +kernel
theorem dX8_takeFriends_13 : decode cX8_takeFriends 13 = .ok (.getfield 180, 3) := by decide +kernel
theorem dX8_takeFriends_16 : decode cX8_takeFriends 16 = .ok (.istore_n 2, 1) := by decide +kernel
theorem dX8_takeFriends_17 : decode cX8_takeFriends 17 = .ok (.iload_n 1, 1) := by decide +kernel
theorem dX8_takeFriends_18 : decode cX8_takeFriends 18 = .ok (.ifCond .le 7, 3) := by decide +kernel
theorem dX8_takeFriends_21 : decode cX8_takeFriends 21 = .ok (.iload_n 1, 1) := by decide +kernel
theorem dX8_takeFriends_22 : decode cX8_takeFriends 22 = .ok (.goto 14, 3) := by decide +kernel
theorem dX8_takeFriends_25 : decode cX8_takeFriends 25 = .ok (.aload_n 0, 1) := by decide +kernel
theorem dX8_takeFriends_26 : decode cX8_takeFriends 26 = .ok (.iconst 0, 1) := by decide +kernel
theorem dX8_takeFriends_27 : decode cX8_takeFriends 27 = .ok (.aload_n 0, 1) := by decide +kernel
theorem dX8_takeFriends_28 : decode cX8_takeFriends 28 = .ok (.getfield 189, 3) := by decide +kernel
theorem dX8_takeFriends_31 : decode cX8_takeFriends 31 = .ok (.iconst 1, 1) := by decide +kernel
theorem dX8_takeFriends_32 : decode cX8_takeFriends 32 = .ok (.isub, 1) := by decide +kernel
theorem dX8_takeFriends_33 : decode cX8_takeFriends 33 = .ok (.invokevirtual 183, 3) := by decide +kernel
theorem dX8_takeFriends_36 : decode cX8_takeFriends 36 = .ok (.istore_n 1, 1) := by decide +kernel
theorem dX8_takeFriends_37 : decode cX8_takeFriends 37 = .ok (.iload_n 1, 1) := by decide +kernel
theorem dX8_takeFriends_38 : decode cX8_takeFriends 38 = .ok (.ifCond .le 5, 3) := by decide +kernel
theorem dX8_takeFriends_41 : decode cX8_takeFriends 41 = .ok (.iload_n 1, 1) := by decide +kernel
theorem dX8_takeFriends_42 : decode cX8_takeFriends 42 = .ok (.ireturn, 1) := by decide +kernel
theorem dX8_takeFriends_43 : decode cX8_takeFriends 43 = .ok (.aload_n 0, 1) := by decide +kernel
theorem dX8_takeFriends_44 : decode cX8_takeFriends 44 = .ok (.getfield 180, 3) := by decide +kernel
theorem dX8_takeFriends_47 : decode cX8_takeFriends 47 = .ok (.istore_n 3, 1) := by decide +kernel
theorem dX8_takeFriends_48 : decode cX8_takeFriends 48 = .ok (.iload_n 2, 1) := by decide +kernel
theorem dX8_takeFriends_49 : decode cX8_takeFriends 49 = .ok (.iload_n 3, 1) := by decide +kernel
theorem dX8_takeFriends_50 : decode cX8_takeFriends 50 = .ok (.if_icmp .eq 17, 3) := by decide +kernel
theorem dX8_takeFriends_53 : decode cX8_takeFriends 53 = .ok (.aload_n 0, 1) := by decide +kernel
theorem dX8_takeFriends_54 : decode cX8_takeFriends 54 = .ok (.getfield 71, 3) := by decide +kernel
theorem dX8_takeFriends_57 : decode cX8_takeFriends 57 = .ok (.bipush 6, 2) := by decide +kernel
theorem dX8_takeFriends_59 : decode cX8_takeFriends 59 = .ok (.iload_n 2, 1) := by decide +kernel
theorem dX8_takeFriends_60 : decode cX8_takeFriends 60 = .ok (.imul, 1) := by decide +kernel
theorem dX8_takeFriends_61 : decode cX8_takeFriends 61 = .ok (.iload_n 3, 1) := by decide +kernel
theorem dX8_takeFriends_62 : decode cX8_takeFriends 62 = .ok (.iadd, 1) := by decide +kernel
theorem dX8_takeFriends_63 : decode cX8_takeFriends 63 = .ok (.iaload, 1) := by decide +kernel
theorem dX8_takeFriends_64 : decode cX8_takeFriends 64 = .ok (.ifCond .le 13, 3) := by decide +kernel
theorem dX8_takeFriends_67 : decode cX8_takeFriends 67 = .ok (.aload_n 0, 1) := by decide +kernel
theorem dX8_takeFriends_68 : decode cX8_takeFriends 68 = .ok (.iconst 4, 1) := by decide +kernel
theorem dX8_takeFriends_69 : decode cX8_takeFriends 69 = .ok (.aload_n 0, 1) := by decide +kernel
theorem dX8_takeFriends_70 : decode cX8_takeFriends 70 = .ok (.getfield 177, 3) := by decide +kernel
theorem dX8_takeFriends_73 : decode cX8_takeFriends 73 = .ok (.invokevirtual 173, 3) := by decide +kernel
theorem dX8_takeFriends_76 : decode cX8_takeFriends 76 = .ok (.ireturn, 1) := by decide +kernel
theorem dX8_takeFriends_77 : decode cX8_takeFriends 77 = .ok (.aload_n 0, 1) := by decide +kernel
theorem dX8_takeFriends_78 : decode cX8_takeFriends 78 = .ok (.aload_n 0, 1) := by decide +kernel
theorem dX8_takeFriends_79 : decode cX8_takeFriends 79 = .ok (.getfield 71, 3) := by decide +kernel
theorem dX8_takeFriends_82 : decode cX8_takeFriends 82 = .ok (.bipush 6, 2) := by decide +kernel
theorem dX8_takeFriends_84 : decode cX8_takeFriends 84 = .ok (.iload_n 2, 1) := by decide +kernel
theorem dX8_takeFriends_85 : decode cX8_takeFriends 85 = .ok (.imul, 1) := by decide +kernel
theorem dX8_takeFriends_86 : decode cX8_takeFriends 86 = .ok (.iload_n 3, 1) := by decide +kernel
theorem dX8_takeFriends_87 : decode cX8_takeFriends 87 = .ok (.iadd, 1) := by decide +kernel
theorem dX8_takeFriends_88 : decode cX8_takeFriends 88 = .ok (.iconst 1, 1) := by decide +kernel
theorem dX8_takeFriends_89 : decode cX8_takeFriends 89 = .ok (.bipush 99, 2) := by decide +kernel
theorem dX8_takeFriends_91 : decode cX8_takeFriends 91 = .ok (.invokevirtual 192, 3) := by decide +kernel
theorem dX8_takeFriends_94 : decode cX8_takeFriends 94 = .ok (.istore_n 1, 1) := by decide +kernel
theorem dX8_takeFriends_95 : decode cX8_takeFriends 95 = .ok (.aload_n 0, 1) := by decide +kernel
theorem dX8_takeFriends_96 : decode cX8_takeFriends 96 = .ok (.getfield 71, 3) := by decide +kernel
theorem dX8_takeFriends_99 : decode cX8_takeFriends 99 = .ok (.bipush 6, 2) := by decide +kernel
theorem dX8_takeFriends_101 : decode cX8_takeFriends 101 = .ok (.iload_n 3, 1) := by decide +kernel
theorem dX8_takeFriends_102 : decode cX8_takeFriends 102 = .ok (.imul, 1) := by decide +kernel
theorem dX8_takeFriends_103 : decode cX8_takeFriends 103 = .ok (.iload_n 2, 1) := by decide +kernel
theorem dX8_takeFriends_104 : decode cX8_takeFriends 104 = .ok (.iadd, 1) := by decide +kernel
theorem dX8_takeFriends_105 : decode cX8_takeFriends 105 = .ok (.aload_n 0, 1) := by decide +kernel
theorem dX8_takeFriends_106 : decode cX8_takeFriends 106 = .ok (.getfield 180, 3) := by decide +kernel
theorem dX8_takeFriends_109 : decode cX8_takeFriends 109 = .ok (.iastore, 1) := by decide +kernel
theorem dX8_takeFriends_110 : decode cX8_takeFriends 110 = .ok (.aload_n 0, 1) := by decide +kernel
theorem dX8_takeFriends_111 : decode cX8_takeFriends 111 = .ok (.dup, 1) := by decide +kernel
theorem dX8_takeFriends_112 : decode cX8_takeFriends 112 = .ok (.getfield 196, 3) := by decide +kernel
theorem dX8_takeFriends_115 : decode cX8_takeFriends 115 = .ok (.iconst 1, 1) := by decide +kernel
theorem dX8_takeFriends_116 : decode cX8_takeFriends 116 = .ok (.iadd, 1) := by decide +kernel
theorem dX8_takeFriends_117 : decode cX8_takeFriends 117 = .ok (.putfield 196, 3) := by decide +kernel
theorem dX8_takeFriends_120 : decode cX8_takeFriends 120 = .ok (.iload_n 1, 1) := by decide +kernel
theorem dX8_takeFriends_121 : decode cX8_takeFriends 121 = .ok (.ireturn, 1) := by decide +kernel
theorem dX8_takeClause_0 : decode cX8_takeClause 0 = .ok (.aload_n 0, 1) := by decide +kernel
theorem dX8_takeClause_1 : decode cX8_takeClause 1 = .ok (.invokevirtual 199, 3) := by decide +kernel
theorem dX8_takeClause_4 : decode cX8_takeClause 4 = .ok (.aload_n 0, 1) := by decide +kernel
theorem dX8_takeClause_5 : decode cX8_takeClause 5 = .ok (.getfield 150, 3) := by decide +kernel
theorem dX8_takeClause_8 : decode cX8_takeClause 8 = .ok (.bipush 114, 2) := by decide +kernel
theorem dX8_takeClause_10 : decode cX8_takeClause 10 = .ok (.bipush 111, 2) := by decide +kernel
theorem dX8_takeClause_12 : decode cX8_takeClause 12 = .ok (.bipush 111, 2) := by decide +kernel
theorem dX8_takeClause_14 : decode cX8_takeClause 14 = .ok (.bipush 109, 2) := by decide +kernel
theorem dX8_takeClause_16 : decode cX8_takeClause 16 = .ok (.invokestatic 202, 3) := by decide +kernel
theorem dX8_takeClause_19 : decode cX8_takeClause 19 = .ok (.lcmp, 1) := by decide +kernel
theorem dX8_takeClause_20 : decode cX8_takeClause 20 = .ok (.ifCond .ne 7, 3) := by decide +kernel
theorem dX8_takeClause_23 : decode cX8_takeClause 23 = .ok (.iconst 0, 1) := by decide +kernel
theorem dX8_takeClause_24 : decode cX8_takeClause 24 = .ok (.goto 76, 3) := by decide +kernel
theorem dX8_takeClause_27 : decode cX8_takeClause 27 = .ok (.aload_n 0, 1) := by decide +kernel
theorem dX8_takeClause_28 : decode cX8_takeClause 28 = .ok (.getfield 150, 3) := by decide +kernel
theorem dX8_takeClause_31 : decode cX8_takeClause 31 = .ok (.bipush 112, 2) := by decide +kernel
theorem dX8_takeClause_33 : decode cX8_takeClause 33 = .ok (.bipush 101, 2) := by decide +kernel
theorem dX8_takeClause_35 : decode cX8_takeClause 35 = .ok (.bipush 114, 2) := by decide +kernel
theorem dX8_takeClause_37 : decode cX8_takeClause 37 = .ok (.bipush 115, 2) := by decide +kernel
theorem dX8_takeClause_39 : decode cX8_takeClause 39 = .ok (.invokestatic 202, 3) := by decide +kernel
theorem dX8_takeClause_42 : decode cX8_takeClause 42 = .ok (.bipush 111, 2) := by decide +kernel
theorem dX8_takeClause_44 : decode cX8_takeClause 44 = .ok (.bipush 110, 2) := by decide +kernel
theorem dX8_takeClause_46 : decode cX8_takeClause 46 = .ok (.invokestatic 206, 3) := by decide +kernel
theorem dX8_takeClause_49 : decode cX8_takeClause 49 = .ok (.lcmp, 1) := by decide +kernel
theorem dX8_takeClause_50 : decode cX8_takeClause 50 = .ok (.ifCond .ne 7, 3) := by decide +kernel
theorem dX8_takeClause_53 : decode cX8_takeClause 53 = .ok (.iconst 1, 1) := by decide +kernel
theorem dX8_takeClause_54 : decode cX8_takeClause 54 = .ok (.goto 46, 3) := by decide +kernel
theorem dX8_takeClause_57 : decode cX8_takeClause 57 = .ok (.aload_n 0, 1) := by decide +kernel
theorem dX8_takeClause_58 : decode cX8_takeClause 58 = .ok (.getfield 150, 3) := by decide +kernel
theorem dX8_takeClause_61 : decode cX8_takeClause 61 = .ok (.ldc2_w 165, 3) := by decide +kernel
theorem dX8_takeClause_64 : decode cX8_takeClause 64 = .ok (.bipush 102, 2) := by decide +kernel
theorem dX8_takeClause_66 : decode cX8_takeClause 66 = .ok (.bipush 114, 2) := by decide +kernel
theorem dX8_takeClause_68 : decode cX8_takeClause 68 = .ok (.bipush 105, 2) := by decide +kernel
theorem dX8_takeClause_70 : decode cX8_takeClause 70 = .ok (.bipush 101, 2) := by decide +kernel
theorem dX8_takeClause_72 : decode cX8_takeClause 72 = .ok (.invokestatic 202, 3) := by decide +kernel
theorem dX8_takeClause_75 : decode cX8_takeClause 75 = .ok (.bipush 110, 2) := by decide +kernel
theorem dX8_takeClause_77 : decode cX8_takeClause 77 = .ok (.bipush 100, 2) := by decide +kernel
theorem dX8_takeClause_79 : decode cX8_takeClause 79 = .ok (.invokestatic 206, 3) := by decide +kernel
theorem dX8_takeClause_82 : decode cX8_takeClause 82 = .ok (.lmul, 1) := by decide +kernel
theorem dX8_takeClause_83 : decode cX8_takeClause 83 = .ok (.ldc2_w 210, 3) := by decide +kernel
theorem dX8_takeClause_86 : decode cX8_takeClause 86 = .ok (.ladd, 1) := by decide +kernel
theorem dX8_takeClause_87 : decode cX8_takeClause 87 = .ok (.ldc2_w 167, 3) := by decide +kernel
theorem dX8_takeClause_90 : decode cX8_takeClause 90 = .ok (.lsub, 1) := by decide +kernel
theorem dX8_takeClause_91 : decode cX8_takeClause 91 = .ok (.lcmp, 1) := by decide +kernel
theorem dX8_takeClause_92 : decode cX8_takeClause 92 = .ok (.ifCond .ne 7, 3) := by decide +kernel
theorem dX8_takeClause_95 : decode cX8_takeClause 95 = .ok (.iconst 2, 1) := by decide +kernel
theorem dX8_takeClause_96 : decode cX8_takeClause 96 = .ok (.goto 4, 3) := by decide +kernel
theorem dX8_takeClause_99 : decode cX8_takeClause 99 = .ok (.iconst (-1), 1) := by decide +kernel
theorem dX8_takeClause_100 : decode cX8_takeClause 100 = .ok (.istore_n 1, 1) := by decide +kernel
theorem dX8_takeClause_101 : decode cX8_takeClause 101 = .ok (.iload_n 1, 1) := by decide +kernel
theorem dX8_takeClause_102 : decode cX8_takeClause 102 = .ok (.ifCond .ge 13, 3) := by decide +kernel
theorem dX8_takeClause_105 : decode cX8_takeClause 105 = .ok (.aload_n 0, 1) := by decide +kernel
theorem dX8_takeClause_106 : decode cX8_takeClause 106 = .ok (.iconst 1, 1) := by decide +kernel
theorem dX8_takeClause_107 : decode cX8_takeClause 107 = .ok (.aload_n 0, 1) := by decide +kernel
theorem dX8_takeClause_108 : decode cX8_takeClause 108 = .ok (.getfield 143, 3) := by decide +kernel
theorem dX8_takeClause_111 : decode cX8_takeClause 111 = .ok (.invokevirtual 173, 3) := by decide +kernel
theorem dX8_takeClause_114 : decode cX8_takeClause 114 = .ok (.ireturn, 1) := by decide +kernel
theorem dX8_takeClause_115 : decode cX8_takeClause 115 = .ok (.iload_n 1, 1) := by decide +kernel
theorem dX8_takeClause_116 : decode cX8_takeClause 116 = .ok (.ifCond .ne 14, 3) := by decide +kernel
theorem dX8_takeClause_119 : decode cX8_takeClause 119 = .ok (.aload_n 0, 1) := by decide +kernel
theorem dX8_takeClause_120 : decode cX8_takeClause 120 = .ok (.getfield 186, 3) := by decide +kernel
theorem dX8_takeClause_123 : decode cX8_takeClause 123 = .ok (.iconst 3, 1) := by decide +kernel
theorem dX8_takeClause_124 : decode cX8_takeClause 124 = .ok (.if_icmp .ne 42, 3) := by decide +kernel
theorem dX8_takeClause_127 : decode cX8_takeClause 127 = .ok (.goto 29, 3) := by decide +kernel
theorem dX8_takeClause_130 : decode cX8_takeClause 130 = .ok (.iload_n 1, 1) := by decide +kernel
theorem dX8_takeClause_131 : decode cX8_takeClause 131 = .ok (.iconst 1, 1) := by decide +kernel
theorem dX8_takeClause_132 : decode cX8_takeClause 132 = .ok (.if_icmp .ne 15, 3) := by decide +kernel
theorem dX8_takeClause_135 : decode cX8_takeClause 135 = .ok (.aload_n 0, 1) := by decide +kernel
theorem dX8_takeClause_136 : decode cX8_takeClause 136 = .ok (.getfield 189, 3) := by decide +kernel
theorem dX8_takeClause_139 : decode cX8_takeClause 139 = .ok (.bipush 6, 2) := by decide +kernel
theorem dX8_takeClause_141 : decode cX8_takeClause 141 = .ok (.if_icmp .ne 25, 3) := by decide +kernel
theorem dX8_takeClause_144 : decode cX8_takeClause 144 = .ok (.goto 12, 3) := by decide +kernel
theorem dX8_takeClause_147 : decode cX8_takeClause 147 = .ok (.aload_n 0, 1) := by decide +kernel
theorem dX8_takeClause_148 : decode cX8_takeClause 148 = .ok (.getfield 196, 3) := by decide +kernel
theorem dX8_takeClause_151 : decode cX8_takeClause 151 = .ok (.bipush 15, 2) := by decide +kernel
theorem dX8_takeClause_153 : decode cX8_takeClause 153 = .ok (.if_icmp .ne 13, 3) := by decide +kernel
theorem dX8_takeClause_156 : decode cX8_takeClause 156 = .ok (.aload_n 0, 1) := by decide +kernel
theorem dX8_takeClause_157 : decode cX8_takeClause 157 = .ok (.iconst 3, 1) := by decide +kernel
theorem dX8_takeClause_158 : decode cX8_takeClause 158 = .ok (.aload_n 0, 1) := by decide +kernel
theorem dX8_takeClause_159 : decode cX8_takeClause 159 = .ok (.getfield 143, 3) := by decide +kernel
theorem dX8_takeClause_162 : decode cX8_takeClause 162 = .ok (.invokevirtual 173, 3) := by decide +kernel
theorem dX8_takeClause_165 : decode cX8_takeClause 165 = .ok (.ireturn, 1) := by decide +kernel
theorem dX8_takeClause_166 : decode cX8_takeClause 166 = .ok (.aload_n 0, 1) := by decide +kernel
theorem dX8_takeClause_167 : decode cX8_takeClause 167 = .ok (.aload_n 0, 1) := by decide +kernel
theorem dX8_takeClause_168 : decode cX8_takeClause 168 = .ok (.getfield 154, 3) := by decide +kernel
theorem dX8_takeClause_171 : decode cX8_takeClause 171 = .ok (.putfield 143, 3) := by decide +kernel
theorem dX8_takeClause_174 : decode cX8_takeClause 174 = .ok (.iload_n 1, 1) := by decide +kernel
theorem dX8_takeClause_175 : decode cX8_takeClause 175 = .ok (.ifCond .ne 10, 3) := by decide +kernel
theorem dX8_takeClause_178 : decode cX8_takeClause 178 = .ok (.aload_n 0, 1) := by decide +kernel
theorem dX8_takeClause_179 : decode cX8_takeClause 179 = .ok (.invokevirtual 212, 3) := by decide +kernel
theorem dX8_takeClause_182 : decode cX8_takeClause 182 = .ok (.goto 19, 3) := by decide +kernel
theorem dX8_takeClause_185 : decode cX8_takeClause 185 = .ok (.iload_n 1, 1) := by decide +kernel
theorem dX8_takeClause_186 : decode cX8_takeClause 186 = .ok (.iconst 1, 1) := by decide +kernel
theorem dX8_takeClause_187 : decode cX8_takeClause 187 = .ok (.if_icmp .ne 10, 3) := by decide +kernel
theorem dX8_takeClause_190 : decode cX8_takeClause 190 = .ok (.aload_n 0, 1) := by decide +kernel
theorem dX8_takeClause_191 : decode cX8_takeClause 191 = .ok (.invokevirtual 215, 3) := by decide +kernel
theorem dX8_takeClause_194 : decode cX8_takeClause 194 = .ok (.goto 7, 3) := by decide +kernel
theorem dX8_takeClause_197 : decode cX8_takeClause 197 = .ok (.aload_n 0, 1) := by decide +kernel
theorem dX8_takeClause_198 : decode cX8_takeClause 198 = .ok (.invokevirtual 218, 3) := by decide +kernel
theorem dX8_takeClause_201 : decode cX8_takeClause 201 = .ok (.istore_n 2, 1) := by decide +kernel
theorem dX8_takeClause_202 : decode cX8_takeClause 202 = .ok (.iload_n 2, 1) := by decide +kernel
theorem dX8_takeClause_203 : decode cX8_takeClause 203 = .ok (.ifCond .ne 22, 3) := by decide +kernel
theorem dX8_takeClause_206 : decode cX8_takeClause 206 = .ok (.aload_n 0, 1) := by decide +kernel
theorem dX8_takeClause_207 : decode cX8_takeClause 207 = .ok (.invokevirtual 146, 3) := by decide +kernel
theorem dX8_takeClause_210 : decode cX8_takeClause 210 = .ok (.bipush 59, 2) := by decide +kernel
theorem dX8_takeClause_212 : decode cX8_takeClause 212 = .ok (.if_icmp .eq 13, 3) := by decide +kernel
theorem dX8_takeClause_215 : decode cX8_takeClause 215 = .ok (.aload_n 0, 1) := by decide +kernel
theorem dX8_takeClause_216 : decode cX8_takeClause 216 = .ok (.iconst 1, 1) := by decide +kernel
theorem dX8_takeClause_217 : decode cX8_takeClause 217 = .ok (.aload_n 0, 1) := by decide +kernel
theorem dX8_takeClause_218 : decode cX8_takeClause 218 = .ok (.getfield 143, 3) := by decide +kernel
theorem dX8_takeClause_221 : decode cX8_takeClause 221 = .ok (.invokevirtual 173, 3) := by decide +kernel
theorem dX8_takeClause_224 : decode cX8_takeClause 224 = .ok (.ireturn, 1) := by decide +kernel
theorem dX8_takeClause_225 : decode cX8_takeClause 225 = .ok (.aload_n 0, 1) := by decide +kernel
theorem dX8_takeClause_226 : decode cX8_takeClause 226 = .ok (.dup, 1) := by decide +kernel
theorem dX8_takeClause_227 : decode cX8_takeClause 227 = .ok (.getfield 143, 3) := by decide +kernel
theorem dX8_takeClause_230 : decode cX8_takeClause 230 = .ok (.iconst 1, 1) := by decide +kernel
theorem dX8_takeClause_231 : decode cX8_takeClause 231 = .ok (.iadd, 1) := by decide +kernel
theorem dX8_takeClause_232 : decode cX8_takeClause 232 = .ok (.putfield 143, 3) := by decide +kernel
theorem dX8_takeClause_235 : decode cX8_takeClause 235 = .ok (.iload_n 2, 1) := by decide +kernel
theorem dX8_takeClause_236 : decode cX8_takeClause 236 = .ok (.ireturn, 1) := by decide +kernel
theorem dX8_house_0 : decode cX8_house 0 = .ok (.aload_n 0, 1) := by decide +kernel
theorem dX8_house_1 : decode cX8_house 1 = .ok (.iconst (-1), 1) := by decide +kernel
theorem dX8_house_2 : decode cX8_house 2 = .ok (.putfield 49, 3) := by decide +kernel
theorem dX8_house_5 : decode cX8_house 5 = .ok (.aload_n 0, 1) := by decide +kernel
theorem dX8_house_6 : decode cX8_house 6 = .ok (.iconst 0, 1) := by decide +kernel
theorem dX8_house_7 : decode cX8_house 7 = .ok (.putfield 143, 3) := by decide +kernel
theorem dX8_house_10 : decode cX8_house 10 = .ok (.aload_n 0, 1) := by decide +kernel
theorem dX8_house_11 : decode cX8_house 11 = .ok (.iconst 0, 1) := by decide +kernel
theorem dX8_house_12 : decode cX8_house 12 = .ok (.putfield 186, 3) := by decide +kernel
theorem dX8_house_15 : decode cX8_house 15 = .ok (.aload_n 0, 1) := by decide +kernel
theorem dX8_house_16 : decode cX8_house 16 = .ok (.iconst 0, 1) := by decide +kernel
theorem dX8_house_17 : decode cX8_house 17 = .ok (.putfield 189, 3) := by decide +kernel
theorem dX8_house_20 : decode cX8_house 20 = .ok (.aload_n 0, 1) := by decide +kernel
theorem dX8_house_21 : decode cX8_house 21 = .ok (.iconst 0, 1) := by decide +kernel
theorem dX8_house_22 : decode cX8_house 22 = .ok (.putfield 196, 3) := by decide +kernel
theorem dX8_house_25 : decode cX8_house 25 = .ok (.iconst 0, 1) := by decide +kernel
theorem dX8_house_26 : decode cX8_house 26 = .ok (.istore_n 1, 1) := by decide +kernel
theorem dX8_house_27 : decode cX8_house 27 = .ok (.iload_n 1, 1) := by decide +kernel
theorem dX8_house_28 : decode cX8_house 28 = .ok (.bipush 36, 2) := by decide +kernel
theorem dX8_house_30 : decode cX8_house 30 = .ok (.if_icmp .ge 16, 3) := by decide +kernel
theorem dX8_house_33 : decode cX8_house 33 = .ok (.aload_n 0, 1) := by decide +kernel
theorem dX8_house_34 : decode cX8_house 34 = .ok (.getfield 71, 3) := by decide +kernel
theorem dX8_house_37 : decode cX8_house 37 = .ok (.iload_n 1, 1) := by decide +kernel
theorem dX8_house_38 : decode cX8_house 38 = .ok (.iconst 0, 1) := by decide +kernel
theorem dX8_house_39 : decode cX8_house 39 = .ok (.iastore, 1) := by decide +kernel
theorem dX8_house_40 : decode cX8_house 40 = .ok (.iinc 1 1, 3) := by decide +kernel
theorem dX8_house_43 : decode cX8_house 43 = .ok (.goto (-16), 3) := by decide +kernel
theorem dX8_house_46 : decode cX8_house 46 = .ok (.iconst 0, 1) := by decide +kernel
theorem dX8_house_47 : decode cX8_house 47 = .ok (.istore_n 1, 1) := by decide +kernel
theorem dX8_house_48 : decode cX8_house 48 = .ok (.iload_n 1, 1) := by decide +kernel
theorem dX8_house_49 : decode cX8_house 49 = .ok (.ifCond .ne 18, 3) := by decide +kernel
theorem dX8_house_52 : decode cX8_house 52 = .ok (.aload_n 0, 1) := by decide +kernel
theorem dX8_house_53 : decode cX8_house 53 = .ok (.invokevirtual 146, 3) := by decide +kernel
theorem dX8_house_56 : decode cX8_house 56 = .ok (.ifCond .lt 11, 3) := by decide +kernel
theorem dX8_house_59 : decode cX8_house 59 = .ok (.aload_n 0, 1) := by decide +kernel
theorem dX8_house_60 : decode cX8_house 60 = .ok (.invokevirtual 221, 3) := by decide +kernel
theorem dX8_house_63 : decode cX8_house 63 = .ok (.istore_n 1, 1) := by decide +kernel
theorem dX8_house_64 : decode cX8_house 64 = .ok (.goto (-16), 3) := by decide +kernel
theorem dX8_house_67 : decode cX8_house 67 = .ok (.aload_n 0, 1) := by decide +kernel
theorem dX8_house_68 : decode cX8_house 68 = .ok (.iconst 0, 1) := by decide +kernel
theorem dX8_house_69 : decode cX8_house 69 = .ok (.putfield 137, 3) := by decide +kernel
theorem dX8_house_72 : decode cX8_house 72 = .ok (.iload_n 1, 1) := by decide +kernel
theorem dX8_house_73 : decode cX8_house 73 = .ok (.ifCond .le 8, 3) := by decide +kernel
theorem dX8_house_76 : decode cX8_house 76 = .ok (.bipush (-10), 2) := by decide +kernel
theorem dX8_house_78 : decode cX8_house 78 = .ok (.iload_n 1, 1) := by decide +kernel
theorem dX8_house_79 : decode cX8_house 79 = .ok (.isub, 1) := by decide +kernel
theorem dX8_house_80 : decode cX8_house 80 = .ok (.ireturn, 1) := by decide +kernel
theorem dX8_house_81 : decode cX8_house 81 = .ok (.aload_n 0, 1) := by decide +kernel
theorem dX8_house_82 : decode cX8_house 82 = .ok (.aload_n 0, 1) := by decide +kernel
theorem dX8_house_83 : decode cX8_house 83 = .ok (.getfield 186, 3) := by decide +kernel
theorem dX8_house_86 : decode cX8_house 86 = .ok (.putfield 120, 3) := by decide +kernel
theorem dX8_house_89 : decode cX8_house 89 = .ok (.aload_n 0, 1) := by decide +kernel
theorem dX8_house_90 : decode cX8_house 90 = .ok (.aload_n 0, 1) := by decide +kernel
theorem dX8_house_91 : decode cX8_house 91 = .ok (.getfield 189, 3) := by decide +kernel
theorem dX8_house_94 : decode cX8_house 94 = .ok (.putfield 127, 3) := by decide +kernel
theorem dX8_house_97 : decode cX8_house 97 = .ok (.aload_n 0, 1) := by decide +kernel
theorem dX8_house_98 : decode cX8_house 98 = .ok (.aload_n 0, 1) := by decide +kernel
theorem dX8_house_99 : decode cX8_house 99 = .ok (.getfield 196, 3) := by decide +kernel
theorem dX8_house_102 : decode cX8_house 102 = .ok (.putfield 224, 3) := by decide +kernel
theorem dX8_house_105 : decode cX8_house 105 = .ok (.iconst 0, 1) := by decide +kernel
theorem dX8_house_106 : decode cX8_house 106 = .ok (.istore_n 2, 1) := by decide +kernel
theorem dX8_house_107 : decode cX8_house 107 = .ok (.iload_n 2, 1) := by decide +kernel
theorem dX8_house_108 : decode cX8_house 108 = .ok (.iconst 3, 1) := by decide +kernel
theorem dX8_house_109 : decode cX8_house 109 = .ok (.if_icmp .ge 21, 3) := by decide +kernel
theorem dX8_house_112 : decode cX8_house 112 = .ok (.aload_n 0, 1) := by decide +kernel
theorem dX8_house_113 : decode cX8_house 113 = .ok (.getfield 7, 3) := by decide +kernel
theorem dX8_house_116 : decode cX8_house 116 = .ok (.iload_n 2, 1) := by decide +kernel
theorem dX8_house_117 : decode cX8_house 117 = .ok (.aload_n 0, 1) := by decide +kernel
theorem dX8_house_118 : decode cX8_house 118 = .ok (.getfield 53, 3) := by decide +kernel
theorem dX8_house_121 : decode cX8_house 121 = .ok (.iload_n 2, 1) := by decide +kernel
theorem dX8_house_122 : decode cX8_house 122 = .ok (.iaload, 1) := by decide +kernel
theorem dX8_house_123 : decode cX8_house 123 = .ok (.iastore, 1) := by decide +kernel
theorem dX8_house_124 : decode cX8_house 124 = .ok (.iinc 2 1, 3) := by decide +kernel
theorem dX8_house_127 : decode cX8_house 127 = .ok (.goto (-20), 3) := by decide +kernel
theorem dX8_house_130 : decode cX8_house 130 = .ok (.iconst 0, 1) := by decide +kernel
theorem dX8_house_131 : decode cX8_house 131 = .ok (.istore_n 2, 1) := by decide +kernel
theorem dX8_house_132 : decode cX8_house 132 = .ok (.iload_n 2, 1) := by decide +kernel
theorem dX8_house_133 : decode cX8_house 133 = .ok (.bipush 18, 2) := by decide +kernel
theorem dX8_house_135 : decode cX8_house 135 = .ok (.if_icmp .ge 21, 3) := by decide +kernel
theorem dX8_house_138 : decode cX8_house 138 = .ok (.aload_n 0, 1) := by decide +kernel
theorem dX8_house_139 : decode cX8_house 139 = .ok (.getfield 13, 3) := by decide +kernel
theorem dX8_house_142 : decode cX8_house 142 = .ok (.iload_n 2, 1) := by decide +kernel
theorem dX8_house_143 : decode cX8_house 143 = .ok (.aload_n 0, 1) := by decide +kernel
theorem dX8_house_144 : decode cX8_house 144 = .ok (.getfield 56, 3) := by decide +kernel
theorem dX8_house_147 : decode cX8_house 147 = .ok (.iload_n 2, 1) := by decide +kernel
theorem dX8_house_148 : decode cX8_house 148 = .ok (.iaload, 1) := by decide +kernel
theorem dX8_house_149 : decode cX8_house 149 = .ok (.iastore, 1) := by decide +kernel
theorem dX8_house_150 : decode cX8_house 150 = .ok (.iinc 2 1, 3) := by decide +kernel
theorem dX8_house_153 : decode cX8_house 153 = .ok (.goto (-21), 3) := by decide +kernel
theorem dX8_house_156 : decode cX8_house 156 = .ok (.iconst 0, 1) := by decide +kernel
theorem dX8_house_157 : decode cX8_house 157 = .ok (.istore_n 2, 1) := by decide +kernel
theorem dX8_house_158 : decode cX8_house 158 = .ok (.iload_n 2, 1) := by decide +kernel
theorem dX8_house_159 : decode cX8_house 159 = .ok (.bipush 6, 2) := by decide +kernel
theorem dX8_house_161 : decode cX8_house 161 = .ok (.if_icmp .ge 57, 3) := by decide +kernel
theorem dX8_house_164 : decode cX8_house 164 = .ok (.aload_n 0, 1) := by decide +kernel
theorem dX8_house_165 : decode cX8_house 165 = .ok (.getfield 16, 3) := by decide +kernel
theorem dX8_house_168 : decode cX8_house 168 = .ok (.iload_n 2, 1) := by decide +kernel
theorem dX8_house_169 : decode cX8_house 169 = .ok (.aload_n 0, 1) := by decide +kernel
theorem dX8_house_170 : decode cX8_house 170 = .ok (.getfield 59, 3) := by decide +kernel
theorem dX8_house_173 : decode cX8_house 173 = .ok (.iload_n 2, 1) := by decide +kernel
theorem dX8_house_174 : decode cX8_house 174 = .ok (.iaload, 1) := by decide +kernel
theorem dX8_house_175 : decode cX8_house 175 = .ok (.iastore, 1) := by decide +kernel
theorem dX8_house_176 : decode cX8_house 176 = .ok (.aload_n 0, 1) := by decide +kernel
theorem dX8_house_177 : decode cX8_house 177 = .ok (.getfield 19, 3) := by decide +kernel
theorem dX8_house_180 : decode cX8_house 180 = .ok (.iload_n 2, 1) := by decide +kernel
theorem dX8_house_181 : decode cX8_house 181 = .ok (.aload_n 0, 1) := by decide +kernel
theorem dX8_house_182 : decode cX8_house 182 = .ok (.getfield 62, 3) := by decide +kernel
theorem dX8_house_185 : decode cX8_house 185 = .ok (.iload_n 2, 1) := by decide +kernel
theorem dX8_house_186 : decode cX8_house 186 = .ok (.iaload, 1) := by decide +kernel
theorem dX8_house_187 : decode cX8_house 187 = .ok (.iastore, 1) := by decide +kernel
theorem dX8_house_188 : decode cX8_house 188 = .ok (.aload_n 0, 1) := by decide +kernel
theorem dX8_house_189 : decode cX8_house 189 = .ok (.getfield 22, 3) := by decide +kernel
theorem dX8_house_192 : decode cX8_house 192 = .ok (.iload_n 2, 1) := by decide +kernel
theorem dX8_house_193 : decode cX8_house 193 = .ok (.aload_n 0, 1) := by decide +kernel
theorem dX8_house_194 : decode cX8_house 194 = .ok (.getfield 65, 3) := by decide +kernel
theorem dX8_house_197 : decode cX8_house 197 = .ok (.iload_n 2, 1) := by decide +kernel
theorem dX8_house_198 : decode cX8_house 198 = .ok (.iaload, 1) := by decide +kernel
theorem dX8_house_199 : decode cX8_house 199 = .ok (.iastore, 1) := by decide +kernel
theorem dX8_house_200 : decode cX8_house 200 = .ok (.aload_n 0, 1) := by decide +kernel
theorem dX8_house_201 : decode cX8_house 201 = .ok (.getfield 25, 3) := by decide +kernel
theorem dX8_house_204 : decode cX8_house 204 = .ok (.iload_n 2, 1) := by decide +kernel
theorem dX8_house_205 : decode cX8_house 205 = .ok (.aload_n 0, 1) := by decide +kernel
theorem dX8_house_206 : decode cX8_house 206 = .ok (.getfield 68, 3) := by decide +kernel
theorem dX8_house_209 : decode cX8_house 209 = .ok (.iload_n 2, 1) := by decide +kernel
theorem dX8_house_210 : decode cX8_house 210 = .ok (.iaload, 1) := by decide +kernel
theorem dX8_house_211 : decode cX8_house 211 = .ok (.iastore, 1) := by decide +kernel
theorem dX8_house_212 : decode cX8_house 212 = .ok (.iinc 2 1, 3) := by decide +kernel
theorem dX8_house_215 : decode cX8_house 215 = .ok (.goto (-57), 3) := by decide +kernel
theorem dX8_house_218 : decode cX8_house 218 = .ok (.iconst 0, 1) := by decide +kernel
theorem dX8_house_219 : decode cX8_house 219 = .ok (.istore_n 2, 1) := by decide +kernel
theorem dX8_house_220 : decode cX8_house 220 = .ok (.iload_n 2, 1) := by decide +kernel
theorem dX8_house_221 : decode cX8_house 221 = .ok (.bipush 36, 2) := by decide +kernel
theorem dX8_house_223 : decode cX8_house 223 = .ok (.if_icmp .ge 21, 3) := by decide +kernel
theorem dX8_house_226 : decode cX8_house 226 = .ok (.aload_n 0, 1) := by decide +kernel
theorem dX8_house_227 : decode cX8_house 227 = .ok (.getfield 28, 3) := by decide +kernel
theorem dX8_house_230 : decode cX8_house 230 = .ok (.iload_n 2, 1) := by decide +kernel
theorem dX8_house_231 : decode cX8_house 231 = .ok (.aload_n 0, 1) := by decide +kernel
theorem dX8_house_232 : decode cX8_house 232 = .ok (.getfield 71, 3) := by decide +kernel
theorem dX8_house_235 : decode cX8_house 235 = .ok (.iload_n 2, 1) := by decide +kernel
theorem dX8_house_236 : decode cX8_house 236 = .ok (.iaload, 1) := by decide +kernel
theorem dX8_house_237 : decode cX8_house 237 = .ok (.iastore, 1) := by decide +kernel
theorem dX8_house_238 : decode cX8_house 238 = .ok (.iinc 2 1, 3) := by decide +kernel
theorem dX8_house_241 : decode cX8_house 241 = .ok (.goto (-21), 3) := by decide +kernel
theorem dX8_house_244 : decode cX8_house 244 = .ok (.aload_n 0, 1) := by decide +kernel
theorem dX8_house_245 : decode cX8_house 245 = .ok (.iconst 0, 1) := by decide +kernel
theorem dX8_house_246 : decode cX8_house 246 = .ok (.putfield 227, 3) := by decide +kernel
theorem dX8_house_249 : decode cX8_house 249 = .ok (.aload_n 0, 1) := by decide +kernel
theorem dX8_house_250 : decode cX8_house 250 = .ok (.getfield 113, 3) := by decide +kernel
theorem dX8_house_253 : decode cX8_house 253 = .ok (.iconst 0, 1) := by decide +kernel
theorem dX8_house_254 : decode cX8_house 254 = .ok (.iconst 0, 1) := by decide +kernel
theorem dX8_house_255 : decode cX8_house 255 = .ok (.bastore, 1) := by decide +kernel
theorem dX8_house_256 : decode cX8_house 256 = .ok (.aload_n 0, 1) := by decide +kernel
theorem dX8_house_257 : decode cX8_house 257 = .ok (.getfield 113, 3) := by decide +kernel
theorem dX8_house_260 : decode cX8_house 260 = .ok (.iconst 1, 1) := by decide +kernel
theorem dX8_house_261 : decode cX8_house 261 = .ok (.iconst 0, 1) := by decide +kernel
theorem dX8_house_262 : decode cX8_house 262 = .ok (.bastore, 1) := by decide +kernel
theorem dX8_house_263 : decode cX8_house 263 = .ok (.aload_n 0, 1) := by decide +kernel
theorem dX8_house_264 : decode cX8_house 264 = .ok (.invokevirtual 117, 3) := by decide +kernel
theorem dX8_house_267 : decode cX8_house 267 = .ok (.aload_n 0, 1) := by decide +kernel
theorem dX8_house_268 : decode cX8_house 268 = .ok (.getfield 127, 3) := by decide +kernel
theorem dX8_house_271 : decode cX8_house 271 = .ok (.ireturn, 1) := by decide +kernel
theorem dX8_fault_0 : decode cX8_fault 0 = .ok (.aload_n 0, 1) := by decide +kernel
theorem dX8_fault_1 : decode cX8_fault 1 = .ok (.getfield 49, 3) := by decide +kernel
theorem dX8_fault_4 : decode cX8_fault 4 = .ok (.ireturn, 1) := by decide +kernel
theorem dX8_isIn_0 : decode cX8_isIn 0 = .ok (.iconst 0, 1) := by decide +kernel
theorem dX8_isIn_1 : decode cX8_isIn 1 = .ok (.istore_n 2, 1) := by decide +kernel
theorem dX8_isIn_2 : decode cX8_isIn 2 = .ok (.iconst 0, 1) := by decide +kernel
theorem dX8_isIn_3 : decode cX8_isIn 3 = .ok (.istore_n 3, 1) := by decide +kernel
theorem dX8_isIn_4 : decode cX8_isIn 4 = .ok (.iload_n 3, 1) := by decide +kernel
theorem dX8_isIn_5 : decode cX8_isIn 5 = .ok (.aload_n 0, 1) := by decide +kernel
theorem dX8_isIn_6 : decode cX8_isIn 6 = .ok (.getfield 127, 3) := by decide +kernel
theorem dX8_isIn_9 : decode cX8_isIn 9 = .ok (.if_icmp .ge 29, 3) := by decide +kernel
theorem dX8_isIn_12 : decode cX8_isIn 12 = .ok (.iload_n 2, 1) := by decide +kernel
theorem dX8_isIn_13 : decode cX8_isIn 13 = .ok (.aload_n 0, 1) := by decide +kernel
theorem dX8_isIn_14 : decode cX8_isIn 14 = .ok (.getfield 37, 3) := by decide +kernel
theorem dX8_isIn_17 : decode cX8_isIn 17 = .ok (.iload_n 3, 1) := by decide +kernel
theorem dX8_isIn_18 : decode cX8_isIn 18 = .ok (.iaload, 1) := by decide +kernel
theorem dX8_isIn_19 : decode cX8_isIn 19 = .ok (.iload_n 1, 1) := by decide +kernel
theorem dX8_isIn_20 : decode cX8_isIn 20 = .ok (.if_icmp .ne 9, 3) := by decide +kernel
theorem dX8_isIn_23 : decode cX8_isIn 23 = .ok (.iconst 1, 1) := by decide +kernel
theorem dX8_isIn_24 : decode cX8_isIn 24 = .ok (.iload_n 3, 1) := by decide +kernel
theorem dX8_isIn_25 : decode cX8_isIn 25 = .ok (.ishl, 1) := by decide +kernel
theorem dX8_isIn_26 : decode cX8_isIn 26 = .ok (.goto 4, 3) := by decide +kernel
theorem dX8_isIn_29 : decode cX8_isIn 29 = .ok (.iconst 0, 1) := by decide +kernel
theorem dX8_isIn_30 : decode cX8_isIn 30 = .ok (.ior, 1) := by decide +kernel
theorem dX8_isIn_31 : decode cX8_isIn 31 = .ok (.istore_n 2, 1) := by decide +kernel
theorem dX8_isIn_32 : decode cX8_isIn 32 = .ok (.iinc 3 1, 3) := by decide +kernel
theorem dX8_isIn_35 : decode cX8_isIn 35 = .ok (.goto (-31), 3) := by decide +kernel
theorem dX8_isIn_38 : decode cX8_isIn 38 = .ok (.iload_n 2, 1) := by decide +kernel
theorem dX8_isIn_39 : decode cX8_isIn 39 = .ok (.ireturn, 1) := by decide +kernel
theorem dX8_somewhere_0 : decode cX8_somewhere 0 = .ok (.iconst 0, 1) := by decide +kernel
theorem dX8_somewhere_1 : decode cX8_somewhere 1 = .ok (.istore_n 1, 1) := by decide +kernel
theorem dX8_somewhere_2 : decode cX8_somewhere 2 = .ok (.iconst 0, 1) := by decide +kernel
theorem dX8_somewhere_3 : decode cX8_somewhere 3 = .ok (.istore_n 2, 1) := by decide +kernel
theorem dX8_somewhere_4 : decode cX8_somewhere 4 = .ok (.iload_n 2, 1) := by decide +kernel
theorem dX8_somewhere_5 : decode cX8_somewhere 5 = .ok (.aload_n 0, 1) := by decide +kernel
theorem dX8_somewhere_6 : decode cX8_somewhere 6 = .ok (.getfield 127, 3) := by decide +kernel
theorem dX8_somewhere_9 : decode cX8_somewhere 9 = .ok (.if_icmp .ge 28, 3) := by decide +kernel
theorem dX8_somewhere_12 : decode cX8_somewhere 12 = .ok (.iload_n 1, 1) := by decide +kernel
theorem dX8_somewhere_13 : decode cX8_somewhere 13 = .ok (.aload_n 0, 1) := by decide +kernel
theorem dX8_somewhere_14 : decode cX8_somewhere 14 = .ok (.getfield 37, 3) := by decide +kernel
theorem dX8_somewhere_17 : decode cX8_somewhere 17 = .ok (.iload_n 2, 1) := by decide +kernel
theorem dX8_somewhere_18 : decode cX8_somewhere 18 = .ok (.iaload, 1) := by decide +kernel
theorem dX8_somewhere_19 : decode cX8_somewhere 19 = .ok (.ifCond .lt 9, 3) := by decide +kernel
theorem dX8_somewhere_22 : decode cX8_somewhere 22 = .ok (.iconst 1, 1) := by decide +kernel
theorem dX8_somewhere_23 : decode cX8_somewhere 23 = .ok (.iload_n 2, 1) := by decide +kernel
theorem dX8_somewhere_24 : decode cX8_somewhere 24 = .ok (.ishl, 1) := by decide +kernel
theorem dX8_somewhere_25 : decode cX8_somewhere 25 = .ok (.goto 4, 3) := by decide +kernel
theorem dX8_somewhere_28 : decode cX8_somewhere 28 = .ok (.iconst 0, 1) := by decide +kernel
theorem dX8_somewhere_29 : decode cX8_somewhere 29 = .ok (.ior, 1) := by decide +kernel
theorem dX8_somewhere_30 : decode cX8_somewhere 30 = .ok (.istore_n 1, 1) := by decide +kernel
theorem dX8_somewhere_31 : decode cX8_somewhere 31 = .ok (.iinc 2 1, 3) := by decide +kernel
theorem dX8_somewhere_34 : decode cX8_somewhere 34 = .ok (.goto (-30), 3) := by decide +kernel
theorem dX8_somewhere_37 : decode cX8_somewhere 37 = .ok (.iload_n 1, 1) := by decide +kernel
theorem dX8_somewhere_38 : decode cX8_somewhere 38 = .ok (.ireturn, 1) := by decide +kernel
theorem dX8_told_0 : decode cX8_told 0 = .ok (.iload_n 1, 1) := by decide +kernel
theorem dX8_told_1 : decode cX8_told 1 = .ok (.tableswitch 78 0 6 #[43, 48, 53, 58, 63, 68, 73], 43) := by decide +kernel
theorem dX8_told_44 : decode cX8_told 44 = .ok (.aload_n 0, 1) := by decide +kernel
theorem dX8_told_45 : decode cX8_told 45 = .ok (.getfield 120, 3) := by decide +kernel
theorem dX8_told_48 : decode cX8_told 48 = .ok (.ireturn, 1) := by decide +kernel
theorem dX8_told_49 : decode cX8_told 49 = .ok (.aload_n 0, 1) := by decide +kernel
theorem dX8_told_50 : decode cX8_told 50 = .ok (.getfield 127, 3) := by decide +kernel
theorem dX8_told_53 : decode cX8_told 53 = .ok (.ireturn, 1) := by decide +kernel
theorem dX8_told_54 : decode cX8_told 54 = .ok (.aload_n 0, 1) := by decide +kernel
theorem dX8_told_55 : decode cX8_told 55 = .ok (.getfield 224, 3) := by decide +kernel
theorem dX8_told_58 : decode cX8_told 58 = .ok (.ireturn, 1) := by decide +kernel
theorem dX8_told_59 : decode cX8_told 59 = .ok (.aload_n 0, 1) := by decide +kernel
theorem dX8_told_60 : decode cX8_told 60 = .ok (.getfield 137, 3) := by decide +kernel
theorem dX8_told_63 : decode cX8_told 63 = .ok (.ireturn, 1) := by decide +kernel
theorem dX8_told_64 : decode cX8_told 64 = .ok (.aload_n 0, 1) := by decide +kernel
theorem dX8_told_65 : decode cX8_told 65 = .ok (.getfield 230, 3) := by decide +kernel
theorem dX8_told_68 : decode cX8_told 68 = .ok (.ireturn, 1) := by decide +kernel
theorem dX8_told_69 : decode cX8_told 69 = .ok (.aload_n 0, 1) := by decide +kernel
theorem dX8_told_70 : decode cX8_told 70 = .ok (.getfield 227, 3) := by decide +kernel
theorem dX8_told_73 : decode cX8_told 73 = .ok (.ireturn, 1) := by decide +kernel
theorem dX8_told_74 : decode cX8_told 74 = .ok (.aload_n 0, 1) := by decide +kernel
theorem dX8_told_75 : decode cX8_told 75 = .ok (.invokevirtual 233, 3) := by decide +kernel
theorem dX8_told_78 : decode cX8_told 78 = .ok (.ireturn, 1) := by decide +kernel
theorem dX8_told_79 : decode cX8_told 79 = .ok (.ldc 136, 2) := by decide +kernel
theorem dX8_told_81 : decode cX8_told 81 = .ok (.ireturn, 1) := by decide +kernel
theorem dX8_whoAt_0 : decode cX8_whoAt 0 = .ok (.iconst (-1), 1) := by decide +kernel
theorem dX8_whoAt_1 : decode cX8_whoAt 1 = .ok (.istore_n 3, 1) := by decide +kernel
theorem dX8_whoAt_2 : decode cX8_whoAt 2 = .ok (.iconst 0, 1) := by decide +kernel
theorem dX8_whoAt_3 : decode cX8_whoAt 3 = .ok (.istore 4, 2) := by decide +kernel
theorem dX8_whoAt_5 : decode cX8_whoAt 5 = .ok (.iload 4, 2) := by decide +kernel
theorem dX8_whoAt_7 : decode cX8_whoAt 7 = .ok (.aload_n 0, 1) := by decide +kernel
theorem dX8_whoAt_8 : decode cX8_whoAt 8 = .ok (.getfield 127, 3) := by decide +kernel
theorem dX8_whoAt_11 : decode cX8_whoAt 11 = .ok (.if_icmp .ge 38, 3) := by decide +kernel
theorem dX8_whoAt_14 : decode cX8_whoAt 14 = .ok (.aload_n 0, 1) := by decide +kernel
theorem dX8_whoAt_15 : decode cX8_whoAt 15 = .ok (.getfield 37, 3) := by decide +kernel
theorem dX8_whoAt_18 : decode cX8_whoAt 18 = .ok (.iload 4, 2) := by decide +kernel
theorem dX8_whoAt_20 : decode cX8_whoAt 20 = .ok (.iaload, 1) := by decide +kernel
theorem dX8_whoAt_21 : decode cX8_whoAt 21 = .ok (.iload_n 1, 1) := by decide +kernel
theorem dX8_whoAt_22 : decode cX8_whoAt 22 = .ok (.if_icmp .ne 19, 3) := by decide +kernel
theorem dX8_whoAt_25 : decode cX8_whoAt 25 = .ok (.aload_n 0, 1) := by decide +kernel
theorem dX8_whoAt_26 : decode cX8_whoAt 26 = .ok (.getfield 40, 3) := by decide +kernel
theorem dX8_whoAt_29 : decode cX8_whoAt 29 = .ok (.iload 4, 2) := by decide +kernel
theorem dX8_whoAt_31 : decode cX8_whoAt 31 = .ok (.iaload, 1) := by decide +kernel
theorem dX8_whoAt_32 : decode cX8_whoAt 32 = .ok (.iload_n 2, 1) := by decide +kernel
theorem dX8_whoAt_33 : decode cX8_whoAt 33 = .ok (.if_icmp .ne 8, 3) := by decide +kernel
theorem dX8_whoAt_36 : decode cX8_whoAt 36 = .ok (.iload 4, 2) := by decide +kernel
theorem dX8_whoAt_38 : decode cX8_whoAt 38 = .ok (.goto 4, 3) := by decide +kernel
theorem dX8_whoAt_41 : decode cX8_whoAt 41 = .ok (.iload_n 3, 1) := by decide +kernel
theorem dX8_whoAt_42 : decode cX8_whoAt 42 = .ok (.istore_n 3, 1) := by decide +kernel
theorem dX8_whoAt_43 : decode cX8_whoAt 43 = .ok (.iinc 4 1, 3) := by decide +kernel
theorem dX8_whoAt_46 : decode cX8_whoAt 46 = .ok (.goto (-41), 3) := by decide +kernel
theorem dX8_whoAt_49 : decode cX8_whoAt 49 = .ok (.iload_n 3, 1) := by decide +kernel
theorem dX8_whoAt_50 : decode cX8_whoAt 50 = .ok (.ireturn, 1) := by decide +kernel
theorem dX8_room_0 : decode cX8_room 0 = .ok (.aload_n 0, 1) := by decide +kernel
theorem dX8_room_1 : decode cX8_room 1 = .ok (.iload_n 1, 1) := by decide +kernel
theorem dX8_room_2 : decode cX8_room 2 = .ok (.invokevirtual 130, 3) := by decide +kernel
theorem dX8_room_5 : decode cX8_room 5 = .ok (.ifCond .eq 17, 3) := by decide +kernel
theorem dX8_room_8 : decode cX8_room 8 = .ok (.iload_n 2, 1) := by decide +kernel
theorem dX8_room_9 : decode cX8_room 9 = .ok (.iconst (-1), 1) := by decide +kernel
theorem dX8_room_10 : decode cX8_room 10 = .ok (.if_icmp .eq 15, 3) := by decide +kernel
theorem dX8_room_13 : decode cX8_room 13 = .ok (.aload_n 0, 1) := by decide +kernel
theorem dX8_room_14 : decode cX8_room 14 = .ok (.iload_n 1, 1) := by decide +kernel
theorem dX8_room_15 : decode cX8_room 15 = .ok (.iload_n 2, 1) := by decide +kernel
theorem dX8_room_16 : decode cX8_room 16 = .ok (.invokevirtual 236, 3) := by decide +kernel
theorem dX8_room_19 : decode cX8_room 19 = .ok (.ifCond .ne 6, 3) := by decide +kernel
theorem dX8_room_22 : decode cX8_room 22 = .ok (.ldc 240, 2) := by decide +kernel
theorem dX8_room_24 : decode cX8_room 24 = .ok (.ireturn, 1) := by decide +kernel
theorem dX8_room_25 : decode cX8_room 25 = .ok (.iload_n 2, 1) := by decide +kernel
theorem dX8_room_26 : decode cX8_room 26 = .ok (.iconst (-1), 1) := by decide +kernel
theorem dX8_room_27 : decode cX8_room 27 = .ok (.if_icmp .ne 10, 3) := by decide +kernel
theorem dX8_room_30 : decode cX8_room 30 = .ok (.aload_n 0, 1) := by decide +kernel
theorem dX8_room_31 : decode cX8_room 31 = .ok (.getfield 7, 3) := by decide +kernel
theorem dX8_room_34 : decode cX8_room 34 = .ok (.iload_n 1, 1) := by decide +kernel
theorem dX8_room_35 : decode cX8_room 35 = .ok (.iaload, 1) := by decide +kernel
theorem dX8_room_36 : decode cX8_room 36 = .ok (.ireturn, 1) := by decide +kernel
theorem dX8_room_37 : decode cX8_room 37 = .ok (.iload_n 3, 1) := by decide +kernel
theorem dX8_room_38 : decode cX8_room 38 = .ok (.ifCond .ne 17, 3) := by decide +kernel
theorem dX8_room_41 : decode cX8_room 41 = .ok (.aload_n 0, 1) := by decide +kernel
theorem dX8_room_42 : decode cX8_room 42 = .ok (.getfield 13, 3) := by decide +kernel
theorem dX8_room_45 : decode cX8_room 45 = .ok (.bipush 6, 2) := by decide +kernel
theorem dX8_room_47 : decode cX8_room 47 = .ok (.iload_n 1, 1) := by decide +kernel
theorem dX8_room_48 : decode cX8_room 48 = .ok (.imul, 1) := by decide +kernel
theorem dX8_room_49 : decode cX8_room 49 = .ok (.iload_n 2, 1) := by decide +kernel
theorem dX8_room_50 : decode cX8_room 50 = .ok (.iadd, 1) := by decide +kernel
theorem dX8_room_51 : decode cX8_room 51 = .ok (.iaload, 1) := by decide +kernel
theorem dX8_room_52 : decode cX8_room 52 = .ok (.goto 19, 3) := by decide +kernel
theorem dX8_room_55 : decode cX8_room 55 = .ok (.iload_n 3, 1) := by decide +kernel
theorem dX8_room_56 : decode cX8_room 56 = .ok (.iconst 1, 1) := by decide +kernel
theorem dX8_room_57 : decode cX8_room 57 = .ok (.if_icmp .ne 12, 3) := by decide +kernel
theorem dX8_room_60 : decode cX8_room 60 = .ok (.aload_n 0, 1) := by decide +kernel
theorem dX8_room_61 : decode cX8_room 61 = .ok (.iload_n 1, 1) := by decide +kernel
theorem dX8_room_62 : decode cX8_room 62 = .ok (.iload_n 2, 1) := by decide +kernel
theorem dX8_room_63 : decode cX8_room 63 = .ok (.invokevirtual 241, 3) := by decide +kernel
theorem dX8_room_66 : decode cX8_room 66 = .ok (.goto 5, 3) := by decide +kernel
theorem dX8_room_69 : decode cX8_room 69 = .ok (.ldc 136, 2) := by decide +kernel
theorem dX8_room_71 : decode cX8_room 71 = .ok (.ireturn, 1) := by decide +kernel
theorem dX8_tallAt_0 : decode cX8_tallAt 0 = .ok (.aload_n 0, 1) := by decide +kernel
theorem dX8_tallAt_1 : decode cX8_tallAt 1 = .ok (.getfield 13, 3) := by decide +kernel
theorem dX8_tallAt_4 : decode cX8_tallAt 4 = .ok (.bipush 6, 2) := by decide +kernel
theorem dX8_tallAt_6 : decode cX8_tallAt 6 = .ok (.iload_n 2, 1) := by decide +kernel
theorem dX8_tallAt_7 : decode cX8_tallAt 7 = .ok (.imul, 1) := by decide +kernel
theorem dX8_tallAt_8 : decode cX8_tallAt 8 = .ok (.iload_n 3, 1) := by decide +kernel
theorem dX8_tallAt_9 : decode cX8_tallAt 9 = .ok (.iadd, 1) := by decide +kernel
theorem dX8_tallAt_10 : decode cX8_tallAt 10 = .ok (.iaload, 1) := by decide +kernel
theorem dX8_tallAt_11 : decode cX8_tallAt 11 = .ok (.aload_n 0, 1) := by decide +kernel
theorem dX8_tallAt_12 : decode cX8_tallAt 12 = .ok (.getfield 34, 3) := by decide +kernel
theorem dX8_tallAt_15 : decode cX8_tallAt 15 = .ok (.iload_n 1, 1) := by decide +kernel
theorem dX8_tallAt_16 : decode cX8_tallAt 16 = .ok (.iaload, 1) := by decide +kernel
theorem dX8_tallAt_17 : decode cX8_tallAt 17 = .ok (.iadd, 1) := by decide +kernel
theorem dX8_tallAt_18 : decode cX8_tallAt 18 = .ok (.ireturn, 1) := by decide +kernel
theorem dX8_headOf_0 : decode cX8_headOf 0 = .ok (.aload_n 0, 1) := by decide +kernel
theorem dX8_headOf_1 : decode cX8_headOf 1 = .ok (.iload_n 1, 1) := by decide +kernel
theorem dX8_headOf_2 : decode cX8_headOf 2 = .ok (.aload_n 0, 1) := by decide +kernel
theorem dX8_headOf_3 : decode cX8_headOf 3 = .ok (.getfield 37, 3) := by decide +kernel
theorem dX8_headOf_6 : decode cX8_headOf 6 = .ok (.iload_n 1, 1) := by decide +kernel
theorem dX8_headOf_7 : decode cX8_headOf 7 = .ok (.iaload, 1) := by decide +kernel
theorem dX8_headOf_8 : decode cX8_headOf 8 = .ok (.aload_n 0, 1) := by decide +kernel
theorem dX8_headOf_9 : decode cX8_headOf 9 = .ok (.getfield 40, 3) := by decide +kernel
theorem dX8_headOf_12 : decode cX8_headOf 12 = .ok (.iload_n 1, 1) := by decide +kernel
theorem dX8_headOf_13 : decode cX8_headOf 13 = .ok (.iaload, 1) := by decide +kernel
theorem dX8_headOf_14 : decode cX8_headOf 14 = .ok (.invokevirtual 244, 3) := by decide +kernel
theorem dX8_headOf_17 : decode cX8_headOf 17 = .ok (.aload_n 0, 1) := by decide +kernel
theorem dX8_headOf_18 : decode cX8_headOf 18 = .ok (.getfield 43, 3) := by decide +kernel
theorem dX8_headOf_21 : decode cX8_headOf 21 = .ok (.iload_n 1, 1) := by decide +kernel
theorem dX8_headOf_22 : decode cX8_headOf 22 = .ok (.iaload, 1) := by decide +kernel
theorem dX8_headOf_23 : decode cX8_headOf 23 = .ok (.isub, 1) := by decide +kernel
theorem dX8_headOf_24 : decode cX8_headOf 24 = .ok (.ireturn, 1) := by decide +kernel
theorem dX8_person_0 : decode cX8_person 0 = .ok (.aload_n 0, 1) := by decide +kernel
theorem dX8_person_1 : decode cX8_person 1 = .ok (.iload_n 1, 1) := by decide +kernel
theorem dX8_person_2 : decode cX8_person 2 = .ok (.invokevirtual 248, 3) := by decide +kernel
theorem dX8_person_5 : decode cX8_person 5 = .ok (.ifCond .ne 6, 3) := by decide +kernel
theorem dX8_person_8 : decode cX8_person 8 = .ok (.ldc 240, 2) := by decide +kernel
theorem dX8_person_10 : decode cX8_person 10 = .ok (.ireturn, 1) := by decide +kernel
theorem dX8_person_11 : decode cX8_person 11 = .ok (.iload_n 2, 1) := by decide +kernel
theorem dX8_person_12 : decode cX8_person 12 = .ok (.tableswitch 116 0 7 #[48, 55, 62, 69, 76, 83, 90, 97], 48) := by decide +kernel
theorem dX8_person_60 : decode cX8_person 60 = .ok (.aload_n 0, 1) := by decide +kernel
theorem dX8_person_61 : decode cX8_person 61 = .ok (.getfield 31, 3) := by decide +kernel
theorem dX8_person_64 : decode cX8_person 64 = .ok (.iload_n 1, 1) := by decide +kernel
theorem dX8_person_65 : decode cX8_person 65 = .ok (.iaload, 1) := by decide +kernel
theorem dX8_person_66 : decode cX8_person 66 = .ok (.ireturn, 1) := by decide +kernel
theorem dX8_person_67 : decode cX8_person 67 = .ok (.aload_n 0, 1) := by decide +kernel
theorem dX8_person_68 : decode cX8_person 68 = .ok (.getfield 34, 3) := by decide +kernel
theorem dX8_person_71 : decode cX8_person 71 = .ok (.iload_n 1, 1) := by decide +kernel
theorem dX8_person_72 : decode cX8_person 72 = .ok (.iaload, 1) := by decide +kernel
theorem dX8_person_73 : decode cX8_person 73 = .ok (.ireturn, 1) := by decide +kernel
theorem dX8_person_74 : decode cX8_person 74 = .ok (.aload_n 0, 1) := by decide +kernel
theorem dX8_person_75 : decode cX8_person 75 = .ok (.getfield 22, 3) := by decide +kernel
theorem dX8_person_78 : decode cX8_person 78 = .ok (.iload_n 1, 1) := by decide +kernel
theorem dX8_person_79 : decode cX8_person 79 = .ok (.iaload, 1) := by decide +kernel
theorem dX8_person_80 : decode cX8_person 80 = .ok (.ireturn, 1) := by decide +kernel
theorem dX8_person_81 : decode cX8_person 81 = .ok (.aload_n 0, 1) := by decide +kernel
theorem dX8_person_82 : decode cX8_person 82 = .ok (.getfield 25, 3) := by decide +kernel
theorem dX8_person_85 : decode cX8_person 85 = .ok (.iload_n 1, 1) := by decide +kernel
theorem dX8_person_86 : decode cX8_person 86 = .ok (.iaload, 1) := by decide +kernel
theorem dX8_person_87 : decode cX8_person 87 = .ok (.ireturn, 1) := by decide +kernel
theorem dX8_person_88 : decode cX8_person 88 = .ok (.aload_n 0, 1) := by decide +kernel
theorem dX8_person_89 : decode cX8_person 89 = .ok (.getfield 37, 3) := by decide +kernel
theorem dX8_person_92 : decode cX8_person 92 = .ok (.iload_n 1, 1) := by decide +kernel
theorem dX8_person_93 : decode cX8_person 93 = .ok (.iaload, 1) := by decide +kernel
theorem dX8_person_94 : decode cX8_person 94 = .ok (.ireturn, 1) := by decide +kernel
theorem dX8_person_95 : decode cX8_person 95 = .ok (.aload_n 0, 1) := by decide +kernel
theorem dX8_person_96 : decode cX8_person 96 = .ok (.getfield 40, 3) := by decide +kernel
theorem dX8_person_99 : decode cX8_person 99 = .ok (.iload_n 1, 1) := by decide +kernel
theorem dX8_person_100 : decode cX8_person 100 = .ok (.iaload, 1) := by decide +kernel
theorem dX8_person_101 : decode cX8_person 101 = .ok (.ireturn, 1) := by decide +kernel
theorem dX8_person_102 : decode cX8_person 102 = .ok (.aload_n 0, 1) := by decide +kernel
theorem dX8_person_103 : decode cX8_person 103 = .ok (.getfield 43, 3) := by decide +kernel
theorem dX8_person_106 : decode cX8_person 106 = .ok (.iload_n 1, 1) := by decide +kernel
theorem dX8_person_107 : decode cX8_person 107 = .ok (.iaload, 1) := by decide +kernel
theorem dX8_person_108 : decode cX8_person 108 = .ok (.ireturn, 1) := by decide +kernel
theorem dX8_person_109 : decode cX8_person 109 = .ok (.aload_n 0, 1) := by decide +kernel
theorem dX8_person_110 : decode cX8_person 110 = .ok (.getfield 37, 3) := by decide +kernel
theorem dX8_person_113 : decode cX8_person 113 = .ok (.iload_n 1, 1) := by decide +kernel
theorem dX8_person_114 : decode cX8_person 114 = .ok (.iaload, 1) := by decide +kernel
theorem dX8_person_115 : decode cX8_person 115 = .ok (.ifCond .ge 7, 3) := by decide +kernel
theorem dX8_person_118 : decode cX8_person 118 = .ok (.iconst (-1), 1) := by decide +kernel
theorem dX8_person_119 : decode cX8_person 119 = .ok (.goto 8, 3) := by decide +kernel
theorem dX8_person_122 : decode cX8_person 122 = .ok (.aload_n 0, 1) := by decide +kernel
theorem dX8_person_123 : decode cX8_person 123 = .ok (.iload_n 1, 1) := by decide +kernel
theorem dX8_person_124 : decode cX8_person 124 = .ok (.invokevirtual 251, 3) := by decide +kernel
theorem dX8_person_127 : decode cX8_person 127 = .ok (.ireturn, 1) := by decide +kernel
theorem dX8_person_128 : decode cX8_person 128 = .ok (.ldc 136, 2) := by decide +kernel
theorem dX8_person_130 : decode cX8_person 130 = .ok (.ireturn, 1) := by decide +kernel
theorem dX8_friends_0 : decode cX8_friends 0 = .ok (.aload_n 0, 1) := by decide +kernel
theorem dX8_friends_1 : decode cX8_friends 1 = .ok (.iload_n 1, 1) := by decide +kernel
theorem dX8_friends_2 : decode cX8_friends 2 = .ok (.invokevirtual 248, 3) := by decide +kernel
theorem dX8_friends_5 : decode cX8_friends 5 = .ok (.ifCond .eq 30, 3) := by decide +kernel
theorem dX8_friends_8 : decode cX8_friends 8 = .ok (.aload_n 0, 1) := by decide +kernel
theorem dX8_friends_9 : decode cX8_friends 9 = .ok (.iload_n 2, 1) := by decide +kernel
theorem dX8_friends_10 : decode cX8_friends 10 = .ok (.invokevirtual 248, 3) := by decide +kernel
theorem dX8_friends_13 : decode cX8_friends 13 = .ok (.ifCond .eq 22, 3) := by decide +kernel
theorem dX8_friends_16 : decode cX8_friends 16 = .ok (.iload_n 1, 1) := by decide +kernel
theorem dX8_friends_17 : decode cX8_friends 17 = .ok (.iload_n 2, 1) := by decide +kernel
theorem dX8_friends_18 : decode cX8_friends 18 = .ok (.if_icmp .eq 17, 3) := by decide +kernel
theorem dX8_friends_21 : decode cX8_friends 21 = .ok (.aload_n 0, 1) := by decide +kernel
theorem dX8_friends_22 : decode cX8_friends 22 = .ok (.getfield 28, 3) := by decide +kernel
theorem dX8_friends_25 : decode cX8_friends 25 = .ok (.bipush 6, 2) := by decide +kernel
theorem dX8_friends_27 : decode cX8_friends 27 = .ok (.iload_n 1, 1) := by decide +kernel
theorem dX8_friends_28 : decode cX8_friends 28 = .ok (.imul, 1) := by decide +kernel
theorem dX8_friends_29 : decode cX8_friends 29 = .ok (.iload_n 2, 1) := by decide +kernel
theorem dX8_friends_30 : decode cX8_friends 30 = .ok (.iadd, 1) := by decide +kernel
theorem dX8_friends_31 : decode cX8_friends 31 = .ok (.iaload, 1) := by decide +kernel
theorem dX8_friends_32 : decode cX8_friends 32 = .ok (.goto 5, 3) := by decide +kernel
theorem dX8_friends_35 : decode cX8_friends 35 = .ok (.ldc 240, 2) := by decide +kernel
theorem dX8_friends_37 : decode cX8_friends 37 = .ok (.ireturn, 1) := by decide +kernel
theorem dX8_law_0 : decode cX8_law 0 = .ok (.iload_n 1, 1) := by decide +kernel
theorem dX8_law_1 : decode cX8_law 1 = .ok (.i2l, 1) := by decide +kernel
theorem dX8_law_2 : decode cX8_law 2 = .ok (.lconst 0, 1) := by decide +kernel
theorem dX8_law_3 : decode cX8_law 3 = .ok (.lconst 1, 1) := by decide +kernel
theorem dX8_law_4 : decode cX8_law 4 = .ok (.invokestatic 123, 3) := by decide +kernel
theorem dX8_law_7 : decode cX8_law 7 = .ok (.ifCond .ne 6, 3) := by decide +kernel
theorem dX8_law_10 : decode cX8_law 10 = .ok (.ldc 136, 2) := by decide +kernel
theorem dX8_law_12 : decode cX8_law 12 = .ok (.ireturn, 1) := by decide +kernel
theorem dX8_law_13 : decode cX8_law 13 = .ok (.aload_n 0, 1) := by decide +kernel
theorem dX8_law_14 : decode cX8_law 14 = .ok (.getfield 230, 3) := by decide +kernel
theorem dX8_law_17 : decode cX8_law 17 = .ok (.istore_n 2, 1) := by decide +kernel
theorem dX8_law_18 : decode cX8_law 18 = .ok (.aload_n 0, 1) := by decide +kernel
theorem dX8_law_19 : decode cX8_law 19 = .ok (.iload_n 1, 1) := by decide +kernel
theorem dX8_law_20 : decode cX8_law 20 = .ok (.putfield 230, 3) := by decide +kernel
theorem dX8_law_23 : decode cX8_law 23 = .ok (.iload_n 2, 1) := by decide +kernel
theorem dX8_law_24 : decode cX8_law 24 = .ok (.ireturn, 1) := by decide +kernel
theorem dX8_mayCome_0 : decode cX8_mayCome 0 = .ok (.aload_n 0, 1) := by decide +kernel
theorem dX8_mayCome_1 : decode cX8_mayCome 1 = .ok (.getfield 37, 3) := by decide +kernel
theorem dX8_mayCome_4 : decode cX8_mayCome 4 = .ok (.iload_n 1, 1) := by decide +kernel
theorem dX8_mayCome_5 : decode cX8_mayCome 5 = .ok (.iaload, 1) := by decide +kernel
theorem dX8_mayCome_6 : decode cX8_mayCome 6 = .ok (.ifCond .ge 16, 3) := by decide +kernel
theorem dX8_mayCome_9 : decode cX8_mayCome 9 = .ok (.aload_n 0, 1) := by decide +kernel
theorem dX8_mayCome_10 : decode cX8_mayCome 10 = .ok (.iload_n 2, 1) := by decide +kernel
theorem dX8_mayCome_11 : decode cX8_mayCome 11 = .ok (.iload_n 3, 1) := by decide +kernel
theorem dX8_mayCome_12 : decode cX8_mayCome 12 = .ok (.invokevirtual 241, 3) := by decide +kernel
theorem dX8_mayCome_15 : decode cX8_mayCome 15 = .ok (.ifCond .ge 7, 3) := by decide +kernel
theorem dX8_mayCome_18 : decode cX8_mayCome 18 = .ok (.iconst 1, 1) := by decide +kernel
theorem dX8_mayCome_19 : decode cX8_mayCome 19 = .ok (.goto 4, 3) := by decide +kernel
theorem dX8_mayCome_22 : decode cX8_mayCome 22 = .ok (.iconst 0, 1) := by decide +kernel
theorem dX8_mayCome_23 : decode cX8_mayCome 23 = .ok (.ireturn, 1) := by decide +kernel
theorem dX8_put_0 : decode cX8_put 0 = .ok (.aload_n 0, 1) := by decide +kernel
theorem dX8_put_1 : decode cX8_put 1 = .ok (.iload_n 1, 1) := by decide +kernel
theorem dX8_put_2 : decode cX8_put 2 = .ok (.invokevirtual 248, 3) := by decide +kernel
theorem dX8_put_5 : decode cX8_put 5 = .ok (.ifCond .eq 12, 3) := by decide +kernel
theorem dX8_put_8 : decode cX8_put 8 = .ok (.aload_n 0, 1) := by decide +kernel
theorem dX8_put_9 : decode cX8_put 9 = .ok (.iload_n 2, 1) := by decide +kernel
theorem dX8_put_10 : decode cX8_put 10 = .ok (.iload_n 3, 1) := by decide +kernel
theorem dX8_put_11 : decode cX8_put 11 = .ok (.invokevirtual 236, 3) := by decide +kernel
theorem dX8_put_14 : decode cX8_put 14 = .ok (.ifCond .ne 6, 3) := by decide +kernel
theorem dX8_put_17 : decode cX8_put 17 = .ok (.ldc 240, 2) := by decide +kernel
theorem dX8_put_19 : decode cX8_put 19 = .ok (.ireturn, 1) := by decide +kernel
theorem dX8_put_20 : decode cX8_put 20 = .ok (.aload_n 0, 1) := by decide +kernel
theorem dX8_put_21 : decode cX8_put 21 = .ok (.iload_n 1, 1) := by decide +kernel
theorem dX8_put_22 : decode cX8_put 22 = .ok (.iload_n 2, 1) := by decide +kernel
theorem dX8_put_23 : decode cX8_put 23 = .ok (.iload_n 3, 1) := by decide +kernel
theorem dX8_put_24 : decode cX8_put 24 = .ok (.invokevirtual 255, 3) := by decide +kernel
theorem dX8_put_27 : decode cX8_put 27 = .ok (.ifCond .ne 7, 3) := by decide +kernel
theorem dX8_put_30 : decode cX8_put 30 = .ok (.ldc_w 259, 3) := by decide +kernel
theorem dX8_put_33 : decode cX8_put 33 = .ok (.ireturn, 1) := by decide +kernel
theorem dX8_put_34 : decode cX8_put 34 = .ok (.aload_n 0, 1) := by decide +kernel
theorem dX8_put_35 : decode cX8_put 35 = .ok (.getfield 37, 3) := by decide +kernel
theorem dX8_put_38 : decode cX8_put 38 = .ok (.iload_n 1, 1) := by decide +kernel
theorem dX8_put_39 : decode cX8_put 39 = .ok (.iload_n 2, 1) := by decide +kernel
theorem dX8_put_40 : decode cX8_put 40 = .ok (.iastore, 1) := by decide +kernel
theorem dX8_put_41 : decode cX8_put 41 = .ok (.aload_n 0, 1) := by decide +kernel
theorem dX8_put_42 : decode cX8_put 42 = .ok (.getfield 40, 3) := by decide +kernel
theorem dX8_put_45 : decode cX8_put 45 = .ok (.iload_n 1, 1) := by decide +kernel
theorem dX8_put_46 : decode cX8_put 46 = .ok (.iload_n 3, 1) := by decide +kernel
theorem dX8_put_47 : decode cX8_put 47 = .ok (.iastore, 1) := by decide +kernel
theorem dX8_put_48 : decode cX8_put 48 = .ok (.aload_n 0, 1) := by decide +kernel
theorem dX8_put_49 : decode cX8_put 49 = .ok (.iload_n 2, 1) := by decide +kernel
theorem dX8_put_50 : decode cX8_put 50 = .ok (.invokevirtual 260, 3) := by decide +kernel
theorem dX8_put_53 : decode cX8_put 53 = .ok (.ireturn, 1) := by decide +kernel
theorem dX8_leaveNow_0 : decode cX8_leaveNow 0 = .ok (.aload_n 0, 1) := by decide +kernel
theorem dX8_leaveNow_1 : decode cX8_leaveNow 1 = .ok (.getfield 37, 3) := by decide +kernel
theorem dX8_leaveNow_4 : decode cX8_leaveNow 4 = .ok (.iload_n 1, 1) := by decide +kernel
theorem dX8_leaveNow_5 : decode cX8_leaveNow 5 = .ok (.iconst (-1), 1) := by decide +kernel
theorem dX8_leaveNow_6 : decode cX8_leaveNow 6 = .ok (.iastore, 1) := by decide +kernel
theorem dX8_leaveNow_7 : decode cX8_leaveNow 7 = .ok (.aload_n 0, 1) := by decide +kernel
theorem dX8_leaveNow_8 : decode cX8_leaveNow 8 = .ok (.getfield 40, 3) := by decide +kernel
theorem dX8_leaveNow_11 : decode cX8_leaveNow 11 = .ok (.iload_n 1, 1) := by decide +kernel
theorem dX8_leaveNow_12 : decode cX8_leaveNow 12 = .ok (.iconst (-1), 1) := by decide +kernel
theorem dX8_leaveNow_13 : decode cX8_leaveNow 13 = .ok (.iastore, 1) := by decide +kernel
theorem dX8_leaveNow_14 : decode cX8_leaveNow 14 = .ok (.aload_n 0, 1) := by decide +kernel
theorem dX8_leaveNow_15 : decode cX8_leaveNow 15 = .ok (.getfield 43, 3) := by decide +kernel
theorem dX8_leaveNow_18 : decode cX8_leaveNow 18 = .ok (.iload_n 1, 1) := by decide +kernel
theorem dX8_leaveNow_19 : decode cX8_leaveNow 19 = .ok (.iconst 0, 1) := by decide +kernel
theorem dX8_leaveNow_20 : decode cX8_leaveNow 20 = .ok (.iastore, 1) := by decide +kernel
theorem dX8_leaveNow_21 : decode cX8_leaveNow 21 = .ok (.return_, 1) := by decide +kernel
theorem dX8_leave_0 : decode cX8_leave 0 = .ok (.aload_n 0, 1) := by decide +kernel
theorem dX8_leave_1 : decode cX8_leave 1 = .ok (.iload_n 1, 1) := by decide +kernel
theorem dX8_leave_2 : decode cX8_leave 2 = .ok (.invokevirtual 248, 3) := by decide +kernel
theorem dX8_leave_5 : decode cX8_leave 5 = .ok (.ifCond .ne 6, 3) := by decide +kernel
theorem dX8_leave_8 : decode cX8_leave 8 = .ok (.ldc 240, 2) := by decide +kernel
theorem dX8_leave_10 : decode cX8_leave 10 = .ok (.ireturn, 1) := by decide +kernel
theorem dX8_leave_11 : decode cX8_leave 11 = .ok (.aload_n 0, 1) := by decide +kernel
theorem dX8_leave_12 : decode cX8_leave 12 = .ok (.getfield 37, 3) := by decide +kernel
theorem dX8_leave_15 : decode cX8_leave 15 = .ok (.iload_n 1, 1) := by decide +kernel
theorem dX8_leave_16 : decode cX8_leave 16 = .ok (.iaload, 1) := by decide +kernel
theorem dX8_leave_17 : decode cX8_leave 17 = .ok (.ifCond .ge 7, 3) := by decide +kernel
theorem dX8_leave_20 : decode cX8_leave 20 = .ok (.ldc_w 259, 3) := by decide +kernel
theorem dX8_leave_23 : decode cX8_leave 23 = .ok (.ireturn, 1) := by decide +kernel
theorem dX8_leave_24 : decode cX8_leave 24 = .ok (.aload_n 0, 1) := by decide +kernel
theorem dX8_leave_25 : decode cX8_leave 25 = .ok (.getfield 37, 3) := by decide +kernel
theorem dX8_leave_28 : decode cX8_leave 28 = .ok (.iload_n 1, 1) := by decide +kernel
theorem dX8_leave_29 : decode cX8_leave 29 = .ok (.iaload, 1) := by decide +kernel
theorem dX8_leave_30 : decode cX8_leave 30 = .ok (.istore_n 2, 1) := by decide +kernel
theorem dX8_leave_31 : decode cX8_leave 31 = .ok (.aload_n 0, 1) := by decide +kernel
theorem dX8_leave_32 : decode cX8_leave 32 = .ok (.iload_n 1, 1) := by decide +kernel
theorem dX8_leave_33 : decode cX8_leave 33 = .ok (.invokevirtual 263, 3) := by decide +kernel
theorem dX8_leave_36 : decode cX8_leave 36 = .ok (.iload_n 2, 1) := by decide +kernel
theorem dX8_leave_37 : decode cX8_leave 37 = .ok (.ireturn, 1) := by decide +kernel
theorem dX8_bend_0 : decode cX8_bend 0 = .ok (.aload_n 0, 1) := by decide +kernel
theorem dX8_bend_1 : decode cX8_bend 1 = .ok (.iload_n 1, 1) := by decide +kernel
theorem dX8_bend_2 : decode cX8_bend 2 = .ok (.invokevirtual 248, 3) := by decide +kernel
theorem dX8_bend_5 : decode cX8_bend 5 = .ok (.ifCond .ne 6, 3) := by decide +kernel
theorem dX8_bend_8 : decode cX8_bend 8 = .ok (.ldc 240, 2) := by decide +kernel
theorem dX8_bend_10 : decode cX8_bend 10 = .ok (.ireturn, 1) := by decide +kernel
theorem dX8_bend_11 : decode cX8_bend 11 = .ok (.iload_n 2, 1) := by decide +kernel
theorem dX8_bend_12 : decode cX8_bend 12 = .ok (.i2l, 1) := by decide +kernel
theorem dX8_bend_13 : decode cX8_bend 13 = .ok (.lconst 0, 1) := by decide +kernel
theorem dX8_bend_14 : decode cX8_bend 14 = .ok (.aload_n 0, 1) := by decide +kernel
theorem dX8_bend_15 : decode cX8_bend 15 = .ok (.getfield 22, 3) := by decide +kernel
theorem dX8_bend_18 : decode cX8_bend 18 = .ok (.iload_n 1, 1) := by decide +kernel
theorem dX8_bend_19 : decode cX8_bend 19 = .ok (.iaload, 1) := by decide +kernel
theorem dX8_bend_20 : decode cX8_bend 20 = .ok (.i2l, 1) := by decide +kernel
theorem dX8_bend_21 : decode cX8_bend 21 = .ok (.invokestatic 123, 3) := by decide +kernel
theorem dX8_bend_24 : decode cX8_bend 24 = .ok (.ifCond .ne 6, 3) := by decide +kernel
theorem dX8_bend_27 : decode cX8_bend 27 = .ok (.ldc 136, 2) := by decide +kernel
theorem dX8_bend_29 : decode cX8_bend 29 = .ok (.ireturn, 1) := by decide +kernel
theorem dX8_bend_30 : decode cX8_bend 30 = .ok (.aload_n 0, 1) := by decide +kernel
theorem dX8_bend_31 : decode cX8_bend 31 = .ok (.getfield 37, 3) := by decide +kernel
theorem dX8_bend_34 : decode cX8_bend 34 = .ok (.iload_n 1, 1) := by decide +kernel
theorem dX8_bend_35 : decode cX8_bend 35 = .ok (.iaload, 1) := by decide +kernel
theorem dX8_bend_36 : decode cX8_bend 36 = .ok (.ifCond .ge 7, 3) := by decide +kernel
theorem dX8_bend_39 : decode cX8_bend 39 = .ok (.ldc_w 259, 3) := by decide +kernel
theorem dX8_bend_42 : decode cX8_bend 42 = .ok (.ireturn, 1) := by decide +kernel
theorem dX8_bend_43 : decode cX8_bend 43 = .ok (.aload_n 0, 1) := by decide +kernel
theorem dX8_bend_44 : decode cX8_bend 44 = .ok (.getfield 43, 3) := by decide +kernel
theorem dX8_bend_47 : decode cX8_bend 47 = .ok (.iload_n 1, 1) := by decide +kernel
theorem dX8_bend_48 : decode cX8_bend 48 = .ok (.iaload, 1) := by decide +kernel
theorem dX8_bend_49 : decode cX8_bend 49 = .ok (.istore_n 3, 1) := by decide +kernel
theorem dX8_bend_50 : decode cX8_bend 50 = .ok (.aload_n 0, 1) := by decide +kernel
theorem dX8_bend_51 : decode cX8_bend 51 = .ok (.getfield 43, 3) := by decide +kernel
theorem dX8_bend_54 : decode cX8_bend 54 = .ok (.iload_n 1, 1) := by decide +kernel
theorem dX8_bend_55 : decode cX8_bend 55 = .ok (.iload_n 2, 1) := by decide +kernel
theorem dX8_bend_56 : decode cX8_bend 56 = .ok (.iastore, 1) := by decide +kernel
theorem dX8_bend_57 : decode cX8_bend 57 = .ok (.iload_n 3, 1) := by decide +kernel
theorem dX8_bend_58 : decode cX8_bend 58 = .ok (.ireturn, 1) := by decide +kernel
theorem dX8_eldest_0 : decode cX8_eldest 0 = .ok (.iconst (-1), 1) := by decide +kernel
theorem dX8_eldest_1 : decode cX8_eldest 1 = .ok (.istore_n 2, 1) := by decide +kernel
theorem dX8_eldest_2 : decode cX8_eldest 2 = .ok (.iconst 0, 1) := by decide +kernel
theorem dX8_eldest_3 : decode cX8_eldest 3 = .ok (.istore_n 3, 1) := by decide +kernel
theorem dX8_eldest_4 : decode cX8_eldest 4 = .ok (.iload_n 3, 1) := by decide +kernel
theorem dX8_eldest_5 : decode cX8_eldest 5 = .ok (.aload_n 0, 1) := by decide +kernel
theorem dX8_eldest_6 : decode cX8_eldest 6 = .ok (.getfield 127, 3) := by decide +kernel
theorem dX8_eldest_9 : decode cX8_eldest 9 = .ok (.if_icmp .ge 42, 3) := by decide +kernel
theorem dX8_eldest_12 : decode cX8_eldest 12 = .ok (.iload_n 1, 1) := by decide +kernel
theorem dX8_eldest_13 : decode cX8_eldest 13 = .ok (.iload_n 3, 1) := by decide +kernel
theorem dX8_eldest_14 : decode cX8_eldest 14 = .ok (.invokestatic 267, 3) := by decide +kernel
theorem dX8_eldest_17 : decode cX8_eldest 17 = .ok (.ifCond .eq 26, 3) := by decide +kernel
theorem dX8_eldest_20 : decode cX8_eldest 20 = .ok (.iload_n 2, 1) := by decide +kernel
theorem dX8_eldest_21 : decode cX8_eldest 21 = .ok (.ifCond .lt 18, 3) := by decide +kernel
theorem dX8_eldest_24 : decode cX8_eldest 24 = .ok (.aload_n 0, 1) := by decide +kernel
theorem dX8_eldest_25 : decode cX8_eldest 25 = .ok (.getfield 31, 3) := by decide +kernel
theorem dX8_eldest_28 : decode cX8_eldest 28 = .ok (.iload_n 3, 1) := by decide +kernel
theorem dX8_eldest_29 : decode cX8_eldest 29 = .ok (.iaload, 1) := by decide +kernel
theorem dX8_eldest_30 : decode cX8_eldest 30 = .ok (.aload_n 0, 1) := by decide +kernel
theorem dX8_eldest_31 : decode cX8_eldest 31 = .ok (.getfield 31, 3) := by decide +kernel
theorem dX8_eldest_34 : decode cX8_eldest 34 = .ok (.iload_n 2, 1) := by decide +kernel
theorem dX8_eldest_35 : decode cX8_eldest 35 = .ok (.iaload, 1) := by decide +kernel
theorem dX8_eldest_36 : decode cX8_eldest 36 = .ok (.if_icmp .le 7, 3) := by decide +kernel
theorem dX8_eldest_39 : decode cX8_eldest 39 = .ok (.iload_n 3, 1) := by decide +kernel
theorem dX8_eldest_40 : decode cX8_eldest 40 = .ok (.goto 4, 3) := by decide +kernel
theorem dX8_eldest_43 : decode cX8_eldest 43 = .ok (.iload_n 2, 1) := by decide +kernel
theorem dX8_eldest_44 : decode cX8_eldest 44 = .ok (.istore_n 2, 1) := by decide +kernel
theorem dX8_eldest_45 : decode cX8_eldest 45 = .ok (.iinc 3 1, 3) := by decide +kernel
theorem dX8_eldest_48 : decode cX8_eldest 48 = .ok (.goto (-44), 3) := by decide +kernel
theorem dX8_eldest_51 : decode cX8_eldest 51 = .ok (.iload_n 2, 1) := by decide +kernel
theorem dX8_eldest_52 : decode cX8_eldest 52 = .ok (.ireturn, 1) := by decide +kernel
theorem dX8_tooHigh_0 : decode cX8_tooHigh 0 = .ok (.aload_n 0, 1) := by decide +kernel
theorem dX8_tooHigh_1 : decode cX8_tooHigh 1 = .ok (.aload_n 0, 1) := by decide +kernel
theorem dX8_tooHigh_2 : decode cX8_tooHigh 2 = .ok (.iload_n 2, 1) := by decide +kernel
theorem dX8_tooHigh_3 : decode cX8_tooHigh 3 = .ok (.invokevirtual 260, 3) := by decide +kernel
theorem dX8_tooHigh_6 : decode cX8_tooHigh 6 = .ok (.invokevirtual 270, 3) := by decide +kernel
theorem dX8_tooHigh_9 : decode cX8_tooHigh 9 = .ok (.istore_n 3, 1) := by decide +kernel
theorem dX8_tooHigh_10 : decode cX8_tooHigh 10 = .ok (.iconst 0, 1) := by decide +kernel
theorem dX8_tooHigh_11 : decode cX8_tooHigh 11 = .ok (.istore 4, 2) := by decide +kernel
theorem dX8_tooHigh_13 : decode cX8_tooHigh 13 = .ok (.iconst 0, 1) := by decide +kernel
theorem dX8_tooHigh_14 : decode cX8_tooHigh 14 = .ok (.istore 5, 2) := by decide +kernel
theorem dX8_tooHigh_16 : decode cX8_tooHigh 16 = .ok (.iload 5, 2) := by decide +kernel
theorem dX8_tooHigh_18 : decode cX8_tooHigh 18 = .ok (.aload_n 0, 1) := by decide +kernel
theorem dX8_tooHigh_19 : decode cX8_tooHigh 19 = .ok (.getfield 127, 3) := by decide +kernel
theorem dX8_tooHigh_22 : decode cX8_tooHigh 22 = .ok (.if_icmp .ge 98, 3) := by decide +kernel
theorem dX8_tooHigh_25 : decode cX8_tooHigh 25 = .ok (.aload_n 0, 1) := by decide +kernel
theorem dX8_tooHigh_26 : decode cX8_tooHigh 26 = .ok (.getfield 37, 3) := by decide +kernel
theorem dX8_tooHigh_29 : decode cX8_tooHigh 29 = .ok (.iload 5, 2) := by decide +kernel
theorem dX8_tooHigh_31 : decode cX8_tooHigh 31 = .ok (.iaload, 1) := by decide +kernel
theorem dX8_tooHigh_32 : decode cX8_tooHigh 32 = .ok (.iload_n 2, 1) := by decide +kernel
theorem dX8_tooHigh_33 : decode cX8_tooHigh 33 = .ok (.if_icmp .ne 39, 3) := by decide +kernel
theorem dX8_tooHigh_36 : decode cX8_tooHigh 36 = .ok (.aload_n 0, 1) := by decide +kernel
theorem dX8_tooHigh_37 : decode cX8_tooHigh 37 = .ok (.getfield 230, 3) := by decide +kernel
theorem dX8_tooHigh_40 : decode cX8_tooHigh 40 = .ok (.ifCond .ne 12, 3) := by decide +kernel
theorem dX8_tooHigh_43 : decode cX8_tooHigh 43 = .ok (.iload 5, 2) := by decide +kernel
theorem dX8_tooHigh_45 : decode cX8_tooHigh 45 = .ok (.iload_n 3, 1) := by decide +kernel
theorem dX8_tooHigh_46 : decode cX8_tooHigh 46 = .ok (.if_icmp .ne 26, 3) := by decide +kernel
theorem dX8_tooHigh_49 : decode cX8_tooHigh 49 = .ok (.goto 19, 3) := by decide +kernel
theorem dX8_tooHigh_52 : decode cX8_tooHigh 52 = .ok (.aload_n 0, 1) := by decide +kernel
theorem dX8_tooHigh_53 : decode cX8_tooHigh 53 = .ok (.getfield 31, 3) := by decide +kernel
theorem dX8_tooHigh_56 : decode cX8_tooHigh 56 = .ok (.iload 5, 2) := by decide +kernel
theorem dX8_tooHigh_58 : decode cX8_tooHigh 58 = .ok (.iaload, 1) := by decide +kernel
theorem dX8_tooHigh_59 : decode cX8_tooHigh 59 = .ok (.aload_n 0, 1) := by decide +kernel
theorem dX8_tooHigh_60 : decode cX8_tooHigh 60 = .ok (.getfield 31, 3) := by decide +kernel
theorem dX8_tooHigh_63 : decode cX8_tooHigh 63 = .ok (.iload_n 1, 1) := by decide +kernel
theorem dX8_tooHigh_64 : decode cX8_tooHigh 64 = .ok (.iaload, 1) := by decide +kernel
theorem dX8_tooHigh_65 : decode cX8_tooHigh 65 = .ok (.if_icmp .le 7, 3) := by decide +kernel
theorem dX8_tooHigh_68 : decode cX8_tooHigh 68 = .ok (.iconst 1, 1) := by decide +kernel
theorem dX8_tooHigh_69 : decode cX8_tooHigh 69 = .ok (.goto 4, 3) := by decide +kernel
theorem dX8_tooHigh_72 : decode cX8_tooHigh 72 = .ok (.iconst 0, 1) := by decide +kernel
theorem dX8_tooHigh_73 : decode cX8_tooHigh 73 = .ok (.istore 6, 2) := by decide +kernel
theorem dX8_tooHigh_75 : decode cX8_tooHigh 75 = .ok (.iload 6, 2) := by decide +kernel
theorem dX8_tooHigh_77 : decode cX8_tooHigh 77 = .ok (.ifCond .eq 18, 3) := by decide +kernel
theorem dX8_tooHigh_80 : decode cX8_tooHigh 80 = .ok (.aload_n 0, 1) := by decide +kernel
theorem dX8_tooHigh_81 : decode cX8_tooHigh 81 = .ok (.iload_n 1, 1) := by decide +kernel
theorem dX8_tooHigh_82 : decode cX8_tooHigh 82 = .ok (.invokevirtual 251, 3) := by decide +kernel
theorem dX8_tooHigh_85 : decode cX8_tooHigh 85 = .ok (.aload_n 0, 1) := by decide +kernel
theorem dX8_tooHigh_86 : decode cX8_tooHigh 86 = .ok (.iload 5, 2) := by decide +kernel
theorem dX8_tooHigh_88 : decode cX8_tooHigh 88 = .ok (.invokevirtual 251, 3) := by decide +kernel
theorem dX8_tooHigh_91 : decode cX8_tooHigh 91 = .ok (.isub, 1) := by decide +kernel
theorem dX8_tooHigh_92 : decode cX8_tooHigh 92 = .ok (.goto 4, 3) := by decide +kernel
theorem dX8_tooHigh_95 : decode cX8_tooHigh 95 = .ok (.iconst 0, 1) := by decide +kernel
theorem dX8_tooHigh_96 : decode cX8_tooHigh 96 = .ok (.istore 7, 2) := by decide +kernel
theorem dX8_tooHigh_98 : decode cX8_tooHigh 98 = .ok (.iload 7, 2) := by decide +kernel
theorem dX8_tooHigh_100 : decode cX8_tooHigh 100 = .ok (.iload 4, 2) := by decide +kernel
theorem dX8_tooHigh_102 : decode cX8_tooHigh 102 = .ok (.if_icmp .le 8, 3) := by decide +kernel
theorem dX8_tooHigh_105 : decode cX8_tooHigh 105 = .ok (.iload 7, 2) := by decide +kernel
theorem dX8_tooHigh_107 : decode cX8_tooHigh 107 = .ok (.goto 5, 3) := by decide +kernel
theorem dX8_tooHigh_110 : decode cX8_tooHigh 110 = .ok (.iload 4, 2) := by decide +kernel
theorem dX8_tooHigh_112 : decode cX8_tooHigh 112 = .ok (.istore 4, 2) := by decide +kernel
theorem dX8_tooHigh_114 : decode cX8_tooHigh 114 = .ok (.iinc 5 1, 3) := by decide +kernel
theorem dX8_tooHigh_117 : decode cX8_tooHigh 117 = .ok (.goto (-101), 3) := by decide +kernel
theorem dX8_tooHigh_120 : decode cX8_tooHigh 120 = .ok (.iload 4, 2) := by decide +kernel
theorem dX8_tooHigh_122 : decode cX8_tooHigh 122 = .ok (.ireturn, 1) := by decide +kernel
theorem dX8_firstFault_0 : decode cX8_firstFault 0 = .ok (.iconst (-1), 1) := by decide +kernel
theorem dX8_firstFault_1 : decode cX8_firstFault 1 = .ok (.istore_n 2, 1) := by decide +kernel
theorem dX8_firstFault_2 : decode cX8_firstFault 2 = .ok (.aload_n 0, 1) := by decide +kernel
theorem dX8_firstFault_3 : decode cX8_firstFault 3 = .ok (.getfield 127, 3) := by decide +kernel
theorem dX8_firstFault_6 : decode cX8_firstFault 6 = .ok (.iconst 1, 1) := by decide +kernel
theorem dX8_firstFault_7 : decode cX8_firstFault 7 = .ok (.isub, 1) := by decide +kernel
theorem dX8_firstFault_8 : decode cX8_firstFault 8 = .ok (.istore_n 3, 1) := by decide +kernel
theorem dX8_firstFault_9 : decode cX8_firstFault 9 = .ok (.iload_n 3, 1) := by decide +kernel
theorem dX8_firstFault_10 : decode cX8_firstFault 10 = .ok (.ifCond .lt 34, 3) := by decide +kernel
theorem dX8_firstFault_13 : decode cX8_firstFault 13 = .ok (.aload_n 0, 1) := by decide +kernel
theorem dX8_firstFault_14 : decode cX8_firstFault 14 = .ok (.getfield 37, 3) := by decide +kernel
theorem dX8_firstFault_17 : decode cX8_firstFault 17 = .ok (.iload_n 3, 1) := by decide +kernel
theorem dX8_firstFault_18 : decode cX8_firstFault 18 = .ok (.iaload, 1) := by decide +kernel
theorem dX8_firstFault_19 : decode cX8_firstFault 19 = .ok (.iload_n 1, 1) := by decide +kernel
theorem dX8_firstFault_20 : decode cX8_firstFault 20 = .ok (.if_icmp .ne 16, 3) := by decide +kernel
theorem dX8_firstFault_23 : decode cX8_firstFault 23 = .ok (.aload_n 0, 1) := by decide +kernel
theorem dX8_firstFault_24 : decode cX8_firstFault 24 = .ok (.iload_n 3, 1) := by decide +kernel
theorem dX8_firstFault_25 : decode cX8_firstFault 25 = .ok (.iload_n 1, 1) := by decide +kernel
theorem dX8_firstFault_26 : decode cX8_firstFault 26 = .ok (.invokevirtual 273, 3) := by decide +kernel
theorem dX8_firstFault_29 : decode cX8_firstFault 29 = .ok (.ifCond .le 7, 3) := by decide +kernel
theorem dX8_firstFault_32 : decode cX8_firstFault 32 = .ok (.iload_n 3, 1) := by decide +kernel
theorem dX8_firstFault_33 : decode cX8_firstFault 33 = .ok (.goto 4, 3) := by decide +kernel
theorem dX8_firstFault_36 : decode cX8_firstFault 36 = .ok (.iload_n 2, 1) := by decide +kernel
theorem dX8_firstFault_37 : decode cX8_firstFault 37 = .ok (.istore_n 2, 1) := by decide +kernel
theorem dX8_firstFault_38 : decode cX8_firstFault 38 = .ok (.iinc 3 (-1), 3) := by decide +kernel
theorem dX8_firstFault_41 : decode cX8_firstFault 41 = .ok (.goto (-32), 3) := by decide +kernel
theorem dX8_firstFault_44 : decode cX8_firstFault 44 = .ok (.iload_n 2, 1) := by decide +kernel
theorem dX8_firstFault_45 : decode cX8_firstFault 45 = .ok (.ireturn, 1) := by decide +kernel
theorem dX8_first_0 : decode cX8_first 0 = .ok (.aload_n 0, 1) := by decide +kernel
theorem dX8_first_1 : decode cX8_first 1 = .ok (.iload_n 1, 1) := by decide +kernel
theorem dX8_first_2 : decode cX8_first 2 = .ok (.invokevirtual 130, 3) := by decide +kernel
theorem dX8_first_5 : decode cX8_first 5 = .ok (.ifCond .ne 6, 3) := by decide +kernel
theorem dX8_first_8 : decode cX8_first 8 = .ok (.ldc 240, 2) := by decide +kernel
theorem dX8_first_10 : decode cX8_first 10 = .ok (.ireturn, 1) := by decide +kernel
theorem dX8_first_11 : decode cX8_first 11 = .ok (.iload_n 2, 1) := by decide +kernel
theorem dX8_first_12 : decode cX8_first 12 = .ok (.i2l, 1) := by decide +kernel
theorem dX8_first_13 : decode cX8_first 13 = .ok (.lconst 0, 1) := by decide +kernel
theorem dX8_first_14 : decode cX8_first 14 = .ok (.lconst 1, 1) := by decide +kernel
theorem dX8_first_15 : decode cX8_first 15 = .ok (.invokestatic 123, 3) := by decide +kernel
theorem dX8_first_18 : decode cX8_first 18 = .ok (.ifCond .ne 6, 3) := by decide +kernel
theorem dX8_first_21 : decode cX8_first 21 = .ok (.ldc 136, 2) := by decide +kernel
theorem dX8_first_23 : decode cX8_first 23 = .ok (.ireturn, 1) := by decide +kernel
theorem dX8_first_24 : decode cX8_first 24 = .ok (.aload_n 0, 1) := by decide +kernel
theorem dX8_first_25 : decode cX8_first 25 = .ok (.iload_n 1, 1) := by decide +kernel
theorem dX8_first_26 : decode cX8_first 26 = .ok (.invokevirtual 276, 3) := by decide +kernel
theorem dX8_first_29 : decode cX8_first 29 = .ok (.istore_n 3, 1) := by decide +kernel
theorem dX8_first_30 : decode cX8_first 30 = .ok (.iload_n 3, 1) := by decide +kernel
theorem dX8_first_31 : decode cX8_first 31 = .ok (.ifCond .ge 7, 3) := by decide +kernel
theorem dX8_first_34 : decode cX8_first 34 = .ok (.iconst (-1), 1) := by decide +kernel
theorem dX8_first_35 : decode cX8_first 35 = .ok (.goto 17, 3) := by decide +kernel
theorem dX8_first_38 : decode cX8_first 38 = .ok (.iload_n 2, 1) := by decide +kernel
theorem dX8_first_39 : decode cX8_first 39 = .ok (.ifCond .ne 7, 3) := by decide +kernel
theorem dX8_first_42 : decode cX8_first 42 = .ok (.iload_n 3, 1) := by decide +kernel
theorem dX8_first_43 : decode cX8_first 43 = .ok (.goto 9, 3) := by decide +kernel
theorem dX8_first_46 : decode cX8_first 46 = .ok (.aload_n 0, 1) := by decide +kernel
theorem dX8_first_47 : decode cX8_first 47 = .ok (.iload_n 3, 1) := by decide +kernel
theorem dX8_first_48 : decode cX8_first 48 = .ok (.iload_n 1, 1) := by decide +kernel
theorem dX8_first_49 : decode cX8_first 49 = .ok (.invokevirtual 273, 3) := by decide +kernel
theorem dX8_first_52 : decode cX8_first 52 = .ok (.ireturn, 1) := by decide +kernel
theorem dX8_bowAll_0 : decode cX8_bowAll 0 = .ok (.iload_n 1, 1) := by decide +kernel
theorem dX8_bowAll_1 : decode cX8_bowAll 1 = .ok (.istore_n 2, 1) := by decide +kernel
theorem dX8_bowAll_2 : decode cX8_bowAll 2 = .ok (.ldc_w 279, 3) := by decide +kernel
theorem dX8_bowAll_5 : decode cX8_bowAll 5 = .ok (.istore_n 3, 1) := by decide +kernel
theorem dX8_bowAll_6 : decode cX8_bowAll 6 = .ok (.iconst 0, 1) := by decide +kernel
theorem dX8_bowAll_7 : decode cX8_bowAll 7 = .ok (.istore 4, 2) := by decide +kernel
theorem dX8_bowAll_9 : decode cX8_bowAll 9 = .ok (.iload_n 2, 1) := by decide +kernel
theorem dX8_bowAll_10 : decode cX8_bowAll 10 = .ok (.ifCond .eq 149, 3) := by decide +kernel
theorem dX8_bowAll_13 : decode cX8_bowAll 13 = .ok (.aload_n 0, 1) := by decide +kernel
theorem dX8_bowAll_14 : decode cX8_bowAll 14 = .ok (.iload_n 2, 1) := by decide +kernel
theorem dX8_bowAll_15 : decode cX8_bowAll 15 = .ok (.invokevirtual 270, 3) := by decide +kernel
theorem dX8_bowAll_18 : decode cX8_bowAll 18 = .ok (.istore 5, 2) := by decide +kernel
theorem dX8_bowAll_20 : decode cX8_bowAll 20 = .ok (.iload_n 2, 1) := by decide +kernel
theorem dX8_bowAll_21 : decode cX8_bowAll 21 = .ok (.iconst 1, 1) := by decide +kernel
theorem dX8_bowAll_22 : decode cX8_bowAll 22 = .ok (.iload 5, 2) := by decide +kernel
theorem dX8_bowAll_24 : decode cX8_bowAll 24 = .ok (.ishl, 1) := by decide +kernel
theorem dX8_bowAll_25 : decode cX8_bowAll 25 = .ok (.iconst (-1), 1) := by decide +kernel
theorem dX8_bowAll_26 : decode cX8_bowAll 26 = .ok (.ixor, 1) := by decide +kernel
theorem dX8_bowAll_27 : decode cX8_bowAll 27 = .ok (.iand, 1) := by decide +kernel
theorem dX8_bowAll_28 : decode cX8_bowAll 28 = .ok (.istore_n 2, 1) := by decide +kernel
theorem dX8_bowAll_29 : decode cX8_bowAll 29 = .ok (.aload_n 0, 1) := by decide +kernel
theorem dX8_bowAll_30 : decode cX8_bowAll 30 = .ok (.getfield 74, 3) := by decide +kernel
theorem dX8_bowAll_33 : decode cX8_bowAll 33 = .ok (.iload 5, 2) := by decide +kernel
theorem dX8_bowAll_35 : decode cX8_bowAll 35 = .ok (.iaload, 1) := by decide +kernel
theorem dX8_bowAll_36 : decode cX8_bowAll 36 = .ok (.iload_n 3, 1) := by decide +kernel
theorem dX8_bowAll_37 : decode cX8_bowAll 37 = .ok (.if_icmp .le 15, 3) := by decide +kernel
theorem dX8_bowAll_40 : decode cX8_bowAll 40 = .ok (.aload_n 0, 1) := by decide +kernel
theorem dX8_bowAll_41 : decode cX8_bowAll 41 = .ok (.getfield 74, 3) := by decide +kernel
theorem dX8_bowAll_44 : decode cX8_bowAll 44 = .ok (.iload 5, 2) := by decide +kernel
theorem dX8_bowAll_46 : decode cX8_bowAll 46 = .ok (.iaload, 1) := by decide +kernel
theorem dX8_bowAll_47 : decode cX8_bowAll 47 = .ok (.iload_n 3, 1) := by decide +kernel
theorem dX8_bowAll_48 : decode cX8_bowAll 48 = .ok (.isub, 1) := by decide +kernel
theorem dX8_bowAll_49 : decode cX8_bowAll 49 = .ok (.goto 4, 3) := by decide +kernel
theorem dX8_bowAll_52 : decode cX8_bowAll 52 = .ok (.iconst 0, 1) := by decide +kernel
theorem dX8_bowAll_53 : decode cX8_bowAll 53 = .ok (.istore 6, 2) := by decide +kernel
theorem dX8_bowAll_55 : decode cX8_bowAll 55 = .ok (.aload_n 0, 1) := by decide +kernel
theorem dX8_bowAll_56 : decode cX8_bowAll 56 = .ok (.getfield 77, 3) := by decide +kernel
theorem dX8_bowAll_59 : decode cX8_bowAll 59 = .ok (.iload 5, 2) := by decide +kernel
theorem dX8_bowAll_61 : decode cX8_bowAll 61 = .ok (.iload 6, 2) := by decide +kernel
theorem dX8_bowAll_63 : decode cX8_bowAll 63 = .ok (.aload_n 0, 1) := by decide +kernel
theorem dX8_bowAll_64 : decode cX8_bowAll 64 = .ok (.getfield 22, 3) := by decide +kernel
theorem dX8_bowAll_67 : decode cX8_bowAll 67 = .ok (.iload 5, 2) := by decide +kernel
theorem dX8_bowAll_69 : decode cX8_bowAll 69 = .ok (.iaload, 1) := by decide +kernel
theorem dX8_bowAll_70 : decode cX8_bowAll 70 = .ok (.if_icmp .le 13, 3) := by decide +kernel
theorem dX8_bowAll_73 : decode cX8_bowAll 73 = .ok (.aload_n 0, 1) := by decide +kernel
theorem dX8_bowAll_74 : decode cX8_bowAll 74 = .ok (.getfield 22, 3) := by decide +kernel
theorem dX8_bowAll_77 : decode cX8_bowAll 77 = .ok (.iload 5, 2) := by decide +kernel
theorem dX8_bowAll_79 : decode cX8_bowAll 79 = .ok (.iaload, 1) := by decide +kernel
theorem dX8_bowAll_80 : decode cX8_bowAll 80 = .ok (.goto 5, 3) := by decide +kernel
theorem dX8_bowAll_83 : decode cX8_bowAll 83 = .ok (.iload 6, 2) := by decide +kernel
theorem dX8_bowAll_85 : decode cX8_bowAll 85 = .ok (.iastore, 1) := by decide +kernel
theorem dX8_bowAll_86 : decode cX8_bowAll 86 = .ok (.iload 4, 2) := by decide +kernel
theorem dX8_bowAll_88 : decode cX8_bowAll 88 = .ok (.iload 6, 2) := by decide +kernel
theorem dX8_bowAll_90 : decode cX8_bowAll 90 = .ok (.aload_n 0, 1) := by decide +kernel
theorem dX8_bowAll_91 : decode cX8_bowAll 91 = .ok (.getfield 22, 3) := by decide +kernel
theorem dX8_bowAll_94 : decode cX8_bowAll 94 = .ok (.iload 5, 2) := by decide +kernel
theorem dX8_bowAll_96 : decode cX8_bowAll 96 = .ok (.iaload, 1) := by decide +kernel
theorem dX8_bowAll_97 : decode cX8_bowAll 97 = .ok (.if_icmp .le 10, 3) := by decide +kernel
theorem dX8_bowAll_100 : decode cX8_bowAll 100 = .ok (.iconst 1, 1) := by decide +kernel
theorem dX8_bowAll_101 : decode cX8_bowAll 101 = .ok (.iload 5, 2) := by decide +kernel
theorem dX8_bowAll_103 : decode cX8_bowAll 103 = .ok (.ishl, 1) := by decide +kernel
theorem dX8_bowAll_104 : decode cX8_bowAll 104 = .ok (.goto 4, 3) := by decide +kernel
theorem dX8_bowAll_107 : decode cX8_bowAll 107 = .ok (.iconst 0, 1) := by decide +kernel
theorem dX8_bowAll_108 : decode cX8_bowAll 108 = .ok (.ior, 1) := by decide +kernel
theorem dX8_bowAll_109 : decode cX8_bowAll 109 = .ok (.istore 4, 2) := by decide +kernel
theorem dX8_bowAll_111 : decode cX8_bowAll 111 = .ok (.aload_n 0, 1) := by decide +kernel
theorem dX8_bowAll_112 : decode cX8_bowAll 112 = .ok (.getfield 74, 3) := by decide +kernel
theorem dX8_bowAll_115 : decode cX8_bowAll 115 = .ok (.iload 5, 2) := by decide +kernel
theorem dX8_bowAll_117 : decode cX8_bowAll 117 = .ok (.iaload, 1) := by decide +kernel
theorem dX8_bowAll_118 : decode cX8_bowAll 118 = .ok (.aload_n 0, 1) := by decide +kernel
theorem dX8_bowAll_119 : decode cX8_bowAll 119 = .ok (.getfield 77, 3) := by decide +kernel
theorem dX8_bowAll_122 : decode cX8_bowAll 122 = .ok (.iload 5, 2) := by decide +kernel
end
section
theorem dX8_bowAll_124 : decode cX8_bowAll 124 = .ok (.iaload, 1) := by decide +kernel
theorem dX8_bowAll_125 : decode cX8_bowAll 125 = .ok (.isub, 1) := by decide +kernel
theorem dX8_bowAll_126 : decode cX8_bowAll 126 = .ok (.istore 7, 2) := by decide +kernel
theorem dX8_bowAll_128 : decode cX8_bowAll 128 = .ok (.iload_n 3, 1) := by decide +kernel
theorem dX8_bowAll_129 : decode cX8_bowAll 129 = .ok (.ldc_w 279, 3) := by decide +kernel
theorem dX8_bowAll_132 : decode cX8_bowAll 132 = .ok (.if_icmp .eq 17, 3) := by decide +kernel
theorem dX8_bowAll_135 : decode cX8_bowAll 135 = .ok (.aload_n 0, 1) := by decide +kernel
theorem dX8_bowAll_136 : decode cX8_bowAll 136 = .ok (.getfield 230, 3) := by decide +kernel
theorem dX8_bowAll_139 : decode cX8_bowAll 139 = .ok (.iconst 1, 1) := by decide +kernel
theorem dX8_bowAll_140 : decode cX8_bowAll 140 = .ok (.if_icmp .ne 14, 3) := by decide +kernel
theorem dX8_bowAll_143 : decode cX8_bowAll 143 = .ok (.iload 7, 2) := by decide +kernel
theorem dX8_bowAll_145 : decode cX8_bowAll 145 = .ok (.iload_n 3, 1) := by decide +kernel
theorem dX8_bowAll_146 : decode cX8_bowAll 146 = .ok (.if_icmp .ge 8, 3) := by decide +kernel
theorem dX8_bowAll_149 : decode cX8_bowAll 149 = .ok (.iload 7, 2) := by decide +kernel
theorem dX8_bowAll_151 : decode cX8_bowAll 151 = .ok (.goto 4, 3) := by decide +kernel
theorem dX8_bowAll_154 : decode cX8_bowAll 154 = .ok (.iload_n 3, 1) := by decide +kernel
theorem dX8_bowAll_155 : decode cX8_bowAll 155 = .ok (.istore_n 3, 1) := by decide +kernel
theorem dX8_bowAll_156 : decode cX8_bowAll 156 = .ok (.goto (-147), 3) := by decide +kernel
theorem dX8_bowAll_159 : decode cX8_bowAll 159 = .ok (.iload 4, 2) := by decide +kernel
theorem dX8_bowAll_161 : decode cX8_bowAll 161 = .ok (.ireturn, 1) := by decide +kernel
theorem dX8_takeTall_0 : decode cX8_takeTall 0 = .ok (.iconst 0, 1) := by decide +kernel
theorem dX8_takeTall_1 : decode cX8_takeTall 1 = .ok (.istore_n 2, 1) := by decide +kernel
theorem dX8_takeTall_2 : decode cX8_takeTall 2 = .ok (.iload_n 2, 1) := by decide +kernel
theorem dX8_takeTall_3 : decode cX8_takeTall 3 = .ok (.aload_n 0, 1) := by decide +kernel
theorem dX8_takeTall_4 : decode cX8_takeTall 4 = .ok (.getfield 127, 3) := by decide +kernel
theorem dX8_takeTall_7 : decode cX8_takeTall 7 = .ok (.if_icmp .ge 44, 3) := by decide +kernel
theorem dX8_takeTall_10 : decode cX8_takeTall 10 = .ok (.aload_n 0, 1) := by decide +kernel
theorem dX8_takeTall_11 : decode cX8_takeTall 11 = .ok (.getfield 74, 3) := by decide +kernel
theorem dX8_takeTall_14 : decode cX8_takeTall 14 = .ok (.iload_n 2, 1) := by decide +kernel
theorem dX8_takeTall_15 : decode cX8_takeTall 15 = .ok (.iload_n 1, 1) := by decide +kernel
theorem dX8_takeTall_16 : decode cX8_takeTall 16 = .ok (.iload_n 2, 1) := by decide +kernel
theorem dX8_takeTall_17 : decode cX8_takeTall 17 = .ok (.invokestatic 267, 3) := by decide +kernel
theorem dX8_takeTall_20 : decode cX8_takeTall 20 = .ok (.ifCond .eq 23, 3) := by decide +kernel
theorem dX8_takeTall_23 : decode cX8_takeTall 23 = .ok (.aload_n 0, 1) := by decide +kernel
theorem dX8_takeTall_24 : decode cX8_takeTall 24 = .ok (.iload_n 2, 1) := by decide +kernel
theorem dX8_takeTall_25 : decode cX8_takeTall 25 = .ok (.aload_n 0, 1) := by decide +kernel
theorem dX8_takeTall_26 : decode cX8_takeTall 26 = .ok (.getfield 37, 3) := by decide +kernel
theorem dX8_takeTall_29 : decode cX8_takeTall 29 = .ok (.iload_n 2, 1) := by decide +kernel
theorem dX8_takeTall_30 : decode cX8_takeTall 30 = .ok (.iaload, 1) := by decide +kernel
theorem dX8_takeTall_31 : decode cX8_takeTall 31 = .ok (.aload_n 0, 1) := by decide +kernel
theorem dX8_takeTall_32 : decode cX8_takeTall 32 = .ok (.getfield 40, 3) := by decide +kernel
theorem dX8_takeTall_35 : decode cX8_takeTall 35 = .ok (.iload_n 2, 1) := by decide +kernel
theorem dX8_takeTall_36 : decode cX8_takeTall 36 = .ok (.iaload, 1) := by decide +kernel
theorem dX8_takeTall_37 : decode cX8_takeTall 37 = .ok (.invokevirtual 244, 3) := by decide +kernel
theorem dX8_takeTall_40 : decode cX8_takeTall 40 = .ok (.goto 4, 3) := by decide +kernel
theorem dX8_takeTall_43 : decode cX8_takeTall 43 = .ok (.iconst 0, 1) := by decide +kernel
theorem dX8_takeTall_44 : decode cX8_takeTall 44 = .ok (.iastore, 1) := by decide +kernel
theorem dX8_takeTall_45 : decode cX8_takeTall 45 = .ok (.iinc 2 1, 3) := by decide +kernel
theorem dX8_takeTall_48 : decode cX8_takeTall 48 = .ok (.goto (-46), 3) := by decide +kernel
theorem dX8_takeTall_51 : decode cX8_takeTall 51 = .ok (.return_, 1) := by decide +kernel
theorem dX8_bowNow_0 : decode cX8_bowNow 0 = .ok (.aload_n 0, 1) := by decide +kernel
theorem dX8_bowNow_1 : decode cX8_bowNow 1 = .ok (.iload_n 1, 1) := by decide +kernel
theorem dX8_bowNow_2 : decode cX8_bowNow 2 = .ok (.invokevirtual 260, 3) := by decide +kernel
theorem dX8_bowNow_5 : decode cX8_bowNow 5 = .ok (.istore_n 2, 1) := by decide +kernel
theorem dX8_bowNow_6 : decode cX8_bowNow 6 = .ok (.aload_n 0, 1) := by decide +kernel
theorem dX8_bowNow_7 : decode cX8_bowNow 7 = .ok (.iload_n 2, 1) := by decide +kernel
theorem dX8_bowNow_8 : decode cX8_bowNow 8 = .ok (.invokevirtual 280, 3) := by decide +kernel
theorem dX8_bowNow_11 : decode cX8_bowNow 11 = .ok (.aload_n 0, 1) := by decide +kernel
theorem dX8_bowNow_12 : decode cX8_bowNow 12 = .ok (.iload_n 2, 1) := by decide +kernel
theorem dX8_bowNow_13 : decode cX8_bowNow 13 = .ok (.invokevirtual 283, 3) := by decide +kernel
theorem dX8_bowNow_16 : decode cX8_bowNow 16 = .ok (.istore_n 3, 1) := by decide +kernel
theorem dX8_bowNow_17 : decode cX8_bowNow 17 = .ok (.iconst 0, 1) := by decide +kernel
theorem dX8_bowNow_18 : decode cX8_bowNow 18 = .ok (.istore 4, 2) := by decide +kernel
theorem dX8_bowNow_20 : decode cX8_bowNow 20 = .ok (.iload 4, 2) := by decide +kernel
theorem dX8_bowNow_22 : decode cX8_bowNow 22 = .ok (.aload_n 0, 1) := by decide +kernel
theorem dX8_bowNow_23 : decode cX8_bowNow 23 = .ok (.getfield 127, 3) := by decide +kernel
theorem dX8_bowNow_26 : decode cX8_bowNow 26 = .ok (.if_icmp .ge 42, 3) := by decide +kernel
theorem dX8_bowNow_29 : decode cX8_bowNow 29 = .ok (.aload_n 0, 1) := by decide +kernel
theorem dX8_bowNow_30 : decode cX8_bowNow 30 = .ok (.getfield 43, 3) := by decide +kernel
theorem dX8_bowNow_33 : decode cX8_bowNow 33 = .ok (.iload 4, 2) := by decide +kernel
theorem dX8_bowNow_35 : decode cX8_bowNow 35 = .ok (.iload_n 2, 1) := by decide +kernel
theorem dX8_bowNow_36 : decode cX8_bowNow 36 = .ok (.iload 4, 2) := by decide +kernel
theorem dX8_bowNow_38 : decode cX8_bowNow 38 = .ok (.invokestatic 267, 3) := by decide +kernel
theorem dX8_bowNow_41 : decode cX8_bowNow 41 = .ok (.ifCond .eq 13, 3) := by decide +kernel
theorem dX8_bowNow_44 : decode cX8_bowNow 44 = .ok (.aload_n 0, 1) := by decide +kernel
theorem dX8_bowNow_45 : decode cX8_bowNow 45 = .ok (.getfield 77, 3) := by decide +kernel
theorem dX8_bowNow_48 : decode cX8_bowNow 48 = .ok (.iload 4, 2) := by decide +kernel
theorem dX8_bowNow_50 : decode cX8_bowNow 50 = .ok (.iaload, 1) := by decide +kernel
theorem dX8_bowNow_51 : decode cX8_bowNow 51 = .ok (.goto 10, 3) := by decide +kernel
theorem dX8_bowNow_54 : decode cX8_bowNow 54 = .ok (.aload_n 0, 1) := by decide +kernel
theorem dX8_bowNow_55 : decode cX8_bowNow 55 = .ok (.getfield 43, 3) := by decide +kernel
theorem dX8_bowNow_58 : decode cX8_bowNow 58 = .ok (.iload 4, 2) := by decide +kernel
theorem dX8_bowNow_60 : decode cX8_bowNow 60 = .ok (.iaload, 1) := by decide +kernel
theorem dX8_bowNow_61 : decode cX8_bowNow 61 = .ok (.iastore, 1) := by decide +kernel
theorem dX8_bowNow_62 : decode cX8_bowNow 62 = .ok (.iinc 4 1, 3) := by decide +kernel
theorem dX8_bowNow_65 : decode cX8_bowNow 65 = .ok (.goto (-45), 3) := by decide +kernel
theorem dX8_bowNow_68 : decode cX8_bowNow 68 = .ok (.iload_n 3, 1) := by decide +kernel
theorem dX8_bowNow_69 : decode cX8_bowNow 69 = .ok (.ireturn, 1) := by decide +kernel
theorem dX8_bow_0 : decode cX8_bow 0 = .ok (.aload_n 0, 1) := by decide +kernel
theorem dX8_bow_1 : decode cX8_bow 1 = .ok (.iload_n 1, 1) := by decide +kernel
theorem dX8_bow_2 : decode cX8_bow 2 = .ok (.invokevirtual 130, 3) := by decide +kernel
theorem dX8_bow_5 : decode cX8_bow 5 = .ok (.ifCond .eq 11, 3) := by decide +kernel
theorem dX8_bow_8 : decode cX8_bow 8 = .ok (.aload_n 0, 1) := by decide +kernel
theorem dX8_bow_9 : decode cX8_bow 9 = .ok (.iload_n 1, 1) := by decide +kernel
theorem dX8_bow_10 : decode cX8_bow 10 = .ok (.invokevirtual 286, 3) := by decide +kernel
theorem dX8_bow_13 : decode cX8_bow 13 = .ok (.goto 5, 3) := by decide +kernel
theorem dX8_bow_16 : decode cX8_bow 16 = .ok (.ldc 240, 2) := by decide +kernel
theorem dX8_bow_18 : decode cX8_bow 18 = .ok (.ireturn, 1) := by decide +kernel
theorem dX8_yearNow_0 : decode cX8_yearNow 0 = .ok (.iconst 0, 1) := by decide +kernel
theorem dX8_yearNow_1 : decode cX8_yearNow 1 = .ok (.istore_n 1, 1) := by decide +kernel
theorem dX8_yearNow_2 : decode cX8_yearNow 2 = .ok (.iload_n 1, 1) := by decide +kernel
theorem dX8_yearNow_3 : decode cX8_yearNow 3 = .ok (.aload_n 0, 1) := by decide +kernel
theorem dX8_yearNow_4 : decode cX8_yearNow 4 = .ok (.getfield 127, 3) := by decide +kernel
theorem dX8_yearNow_7 : decode cX8_yearNow 7 = .ok (.if_icmp .ge 66, 3) := by decide +kernel
theorem dX8_yearNow_10 : decode cX8_yearNow 10 = .ok (.aload_n 0, 1) := by decide +kernel
theorem dX8_yearNow_11 : decode cX8_yearNow 11 = .ok (.getfield 34, 3) := by decide +kernel
theorem dX8_yearNow_14 : decode cX8_yearNow 14 = .ok (.iload_n 1, 1) := by decide +kernel
theorem dX8_yearNow_15 : decode cX8_yearNow 15 = .ok (.iaload, 1) := by decide +kernel
theorem dX8_yearNow_16 : decode cX8_yearNow 16 = .ok (.aload_n 0, 1) := by decide +kernel
theorem dX8_yearNow_17 : decode cX8_yearNow 17 = .ok (.getfield 31, 3) := by decide +kernel
theorem dX8_yearNow_20 : decode cX8_yearNow 20 = .ok (.iload_n 1, 1) := by decide +kernel
theorem dX8_yearNow_21 : decode cX8_yearNow 21 = .ok (.iaload, 1) := by decide +kernel
theorem dX8_yearNow_22 : decode cX8_yearNow 22 = .ok (.bipush 20, 2) := by decide +kernel
theorem dX8_yearNow_24 : decode cX8_yearNow 24 = .ok (.if_icmp .ge 12, 3) := by decide +kernel
theorem dX8_yearNow_27 : decode cX8_yearNow 27 = .ok (.aload_n 0, 1) := by decide +kernel
theorem dX8_yearNow_28 : decode cX8_yearNow 28 = .ok (.getfield 25, 3) := by decide +kernel
theorem dX8_yearNow_31 : decode cX8_yearNow 31 = .ok (.iload_n 1, 1) := by decide +kernel
theorem dX8_yearNow_32 : decode cX8_yearNow 32 = .ok (.iaload, 1) := by decide +kernel
theorem dX8_yearNow_33 : decode cX8_yearNow 33 = .ok (.goto 4, 3) := by decide +kernel
theorem dX8_yearNow_36 : decode cX8_yearNow 36 = .ok (.iconst 0, 1) := by decide +kernel
theorem dX8_yearNow_37 : decode cX8_yearNow 37 = .ok (.iadd, 1) := by decide +kernel
theorem dX8_yearNow_38 : decode cX8_yearNow 38 = .ok (.istore_n 2, 1) := by decide +kernel
theorem dX8_yearNow_39 : decode cX8_yearNow 39 = .ok (.aload_n 0, 1) := by decide +kernel
theorem dX8_yearNow_40 : decode cX8_yearNow 40 = .ok (.getfield 34, 3) := by decide +kernel
theorem dX8_yearNow_43 : decode cX8_yearNow 43 = .ok (.iload_n 1, 1) := by decide +kernel
theorem dX8_yearNow_44 : decode cX8_yearNow 44 = .ok (.iload_n 2, 1) := by decide +kernel
theorem dX8_yearNow_45 : decode cX8_yearNow 45 = .ok (.bipush 90, 2) := by decide +kernel
theorem dX8_yearNow_47 : decode cX8_yearNow 47 = .ok (.if_icmp .le 8, 3) := by decide +kernel
theorem dX8_yearNow_50 : decode cX8_yearNow 50 = .ok (.bipush 90, 2) := by decide +kernel
theorem dX8_yearNow_52 : decode cX8_yearNow 52 = .ok (.goto 4, 3) := by decide +kernel
theorem dX8_yearNow_55 : decode cX8_yearNow 55 = .ok (.iload_n 2, 1) := by decide +kernel
theorem dX8_yearNow_56 : decode cX8_yearNow 56 = .ok (.iastore, 1) := by decide +kernel
theorem dX8_yearNow_57 : decode cX8_yearNow 57 = .ok (.aload_n 0, 1) := by decide +kernel
theorem dX8_yearNow_58 : decode cX8_yearNow 58 = .ok (.getfield 31, 3) := by decide +kernel
theorem dX8_yearNow_61 : decode cX8_yearNow 61 = .ok (.iload_n 1, 1) := by decide +kernel
theorem dX8_yearNow_62 : decode cX8_yearNow 62 = .ok (.dup2, 1) := by decide +kernel
theorem dX8_yearNow_63 : decode cX8_yearNow 63 = .ok (.iaload, 1) := by decide +kernel
theorem dX8_yearNow_64 : decode cX8_yearNow 64 = .ok (.iconst 1, 1) := by decide +kernel
theorem dX8_yearNow_65 : decode cX8_yearNow 65 = .ok (.iadd, 1) := by decide +kernel
theorem dX8_yearNow_66 : decode cX8_yearNow 66 = .ok (.iastore, 1) := by decide +kernel
theorem dX8_yearNow_67 : decode cX8_yearNow 67 = .ok (.iinc 1 1, 3) := by decide +kernel
theorem dX8_yearNow_70 : decode cX8_yearNow 70 = .ok (.goto (-68), 3) := by decide +kernel
theorem dX8_yearNow_73 : decode cX8_yearNow 73 = .ok (.return_, 1) := by decide +kernel
theorem dX8_faultRooms_0 : decode cX8_faultRooms 0 = .ok (.iconst 0, 1) := by decide +kernel
theorem dX8_faultRooms_1 : decode cX8_faultRooms 1 = .ok (.istore_n 1, 1) := by decide +kernel
theorem dX8_faultRooms_2 : decode cX8_faultRooms 2 = .ok (.iconst 0, 1) := by decide +kernel
theorem dX8_faultRooms_3 : decode cX8_faultRooms 3 = .ok (.istore_n 2, 1) := by decide +kernel
theorem dX8_faultRooms_4 : decode cX8_faultRooms 4 = .ok (.iload_n 2, 1) := by decide +kernel
theorem dX8_faultRooms_5 : decode cX8_faultRooms 5 = .ok (.aload_n 0, 1) := by decide +kernel
theorem dX8_faultRooms_6 : decode cX8_faultRooms 6 = .ok (.getfield 120, 3) := by decide +kernel
theorem dX8_faultRooms_9 : decode cX8_faultRooms 9 = .ok (.if_icmp .ge 27, 3) := by decide +kernel
theorem dX8_faultRooms_12 : decode cX8_faultRooms 12 = .ok (.iload_n 1, 1) := by decide +kernel
theorem dX8_faultRooms_13 : decode cX8_faultRooms 13 = .ok (.aload_n 0, 1) := by decide +kernel
theorem dX8_faultRooms_14 : decode cX8_faultRooms 14 = .ok (.iload_n 2, 1) := by decide +kernel
theorem dX8_faultRooms_15 : decode cX8_faultRooms 15 = .ok (.invokevirtual 276, 3) := by decide +kernel
theorem dX8_faultRooms_18 : decode cX8_faultRooms 18 = .ok (.ifCond .lt 9, 3) := by decide +kernel
theorem dX8_faultRooms_21 : decode cX8_faultRooms 21 = .ok (.iconst 1, 1) := by decide +kernel
theorem dX8_faultRooms_22 : decode cX8_faultRooms 22 = .ok (.iload_n 2, 1) := by decide +kernel
theorem dX8_faultRooms_23 : decode cX8_faultRooms 23 = .ok (.ishl, 1) := by decide +kernel
theorem dX8_faultRooms_24 : decode cX8_faultRooms 24 = .ok (.goto 4, 3) := by decide +kernel
theorem dX8_faultRooms_27 : decode cX8_faultRooms 27 = .ok (.iconst 0, 1) := by decide +kernel
theorem dX8_faultRooms_28 : decode cX8_faultRooms 28 = .ok (.ior, 1) := by decide +kernel
theorem dX8_faultRooms_29 : decode cX8_faultRooms 29 = .ok (.istore_n 1, 1) := by decide +kernel
theorem dX8_faultRooms_30 : decode cX8_faultRooms 30 = .ok (.iinc 2 1, 3) := by decide +kernel
theorem dX8_faultRooms_33 : decode cX8_faultRooms 33 = .ok (.goto (-29), 3) := by decide +kernel
theorem dX8_faultRooms_36 : decode cX8_faultRooms 36 = .ok (.iload_n 1, 1) := by decide +kernel
theorem dX8_faultRooms_37 : decode cX8_faultRooms 37 = .ok (.ireturn, 1) := by decide +kernel
theorem dX8_year_0 : decode cX8_year 0 = .ok (.iload_n 1, 1) := by decide +kernel
theorem dX8_year_1 : decode cX8_year 1 = .ok (.i2l, 1) := by decide +kernel
theorem dX8_year_2 : decode cX8_year 2 = .ok (.lconst 1, 1) := by decide +kernel
theorem dX8_year_3 : decode cX8_year 3 = .ok (.ldc2_w 289, 3) := by decide +kernel
theorem dX8_year_6 : decode cX8_year 6 = .ok (.invokestatic 123, 3) := by decide +kernel
theorem dX8_year_9 : decode cX8_year 9 = .ok (.ifCond .ne 6, 3) := by decide +kernel
theorem dX8_year_12 : decode cX8_year 12 = .ok (.ldc 136, 2) := by decide +kernel
theorem dX8_year_14 : decode cX8_year 14 = .ok (.ireturn, 1) := by decide +kernel
theorem dX8_year_15 : decode cX8_year 15 = .ok (.iconst 0, 1) := by decide +kernel
theorem dX8_year_16 : decode cX8_year 16 = .ok (.istore_n 2, 1) := by decide +kernel
theorem dX8_year_17 : decode cX8_year 17 = .ok (.iload_n 2, 1) := by decide +kernel
theorem dX8_year_18 : decode cX8_year 18 = .ok (.iload_n 1, 1) := by decide +kernel
theorem dX8_year_19 : decode cX8_year 19 = .ok (.if_icmp .ge 13, 3) := by decide +kernel
theorem dX8_year_22 : decode cX8_year 22 = .ok (.aload_n 0, 1) := by decide +kernel
theorem dX8_year_23 : decode cX8_year 23 = .ok (.invokevirtual 291, 3) := by decide +kernel
theorem dX8_year_26 : decode cX8_year 26 = .ok (.iinc 2 1, 3) := by decide +kernel
theorem dX8_year_29 : decode cX8_year 29 = .ok (.goto (-12), 3) := by decide +kernel
theorem dX8_year_32 : decode cX8_year 32 = .ok (.aload_n 0, 1) := by decide +kernel
theorem dX8_year_33 : decode cX8_year 33 = .ok (.invokevirtual 294, 3) := by decide +kernel
theorem dX8_year_36 : decode cX8_year 36 = .ok (.ireturn, 1) := by decide +kernel
theorem dX8_lowestFree_0 : decode cX8_lowestFree 0 = .ok (.iconst (-1), 1) := by decide +kernel
theorem dX8_lowestFree_1 : decode cX8_lowestFree 1 = .ok (.istore_n 2, 1) := by decide +kernel
theorem dX8_lowestFree_2 : decode cX8_lowestFree 2 = .ok (.iconst 0, 1) := by decide +kernel
theorem dX8_lowestFree_3 : decode cX8_lowestFree 3 = .ok (.istore_n 3, 1) := by decide +kernel
theorem dX8_lowestFree_4 : decode cX8_lowestFree 4 = .ok (.iload_n 3, 1) := by decide +kernel
theorem dX8_lowestFree_5 : decode cX8_lowestFree 5 = .ok (.aload_n 0, 1) := by decide +kernel
theorem dX8_lowestFree_6 : decode cX8_lowestFree 6 = .ok (.getfield 7, 3) := by decide +kernel
theorem dX8_lowestFree_9 : decode cX8_lowestFree 9 = .ok (.iload_n 1, 1) := by decide +kernel
theorem dX8_lowestFree_10 : decode cX8_lowestFree 10 = .ok (.iaload, 1) := by decide +kernel
theorem dX8_lowestFree_11 : decode cX8_lowestFree 11 = .ok (.if_icmp .ge 65, 3) := by decide +kernel
theorem dX8_lowestFree_14 : decode cX8_lowestFree 14 = .ok (.iload_n 2, 1) := by decide +kernel
theorem dX8_lowestFree_15 : decode cX8_lowestFree 15 = .ok (.ifCond .lt 28, 3) := by decide +kernel
theorem dX8_lowestFree_18 : decode cX8_lowestFree 18 = .ok (.aload_n 0, 1) := by decide +kernel
theorem dX8_lowestFree_19 : decode cX8_lowestFree 19 = .ok (.getfield 13, 3) := by decide +kernel
theorem dX8_lowestFree_22 : decode cX8_lowestFree 22 = .ok (.bipush 6, 2) := by decide +kernel
theorem dX8_lowestFree_24 : decode cX8_lowestFree 24 = .ok (.iload_n 1, 1) := by decide +kernel
theorem dX8_lowestFree_25 : decode cX8_lowestFree 25 = .ok (.imul, 1) := by decide +kernel
theorem dX8_lowestFree_26 : decode cX8_lowestFree 26 = .ok (.iload_n 3, 1) := by decide +kernel
theorem dX8_lowestFree_27 : decode cX8_lowestFree 27 = .ok (.iadd, 1) := by decide +kernel
theorem dX8_lowestFree_28 : decode cX8_lowestFree 28 = .ok (.iaload, 1) := by decide +kernel
theorem dX8_lowestFree_29 : decode cX8_lowestFree 29 = .ok (.aload_n 0, 1) := by decide +kernel
theorem dX8_lowestFree_30 : decode cX8_lowestFree 30 = .ok (.getfield 13, 3) := by decide +kernel
theorem dX8_lowestFree_33 : decode cX8_lowestFree 33 = .ok (.bipush 6, 2) := by decide +kernel
theorem dX8_lowestFree_35 : decode cX8_lowestFree 35 = .ok (.iload_n 1, 1) := by decide +kernel
theorem dX8_lowestFree_36 : decode cX8_lowestFree 36 = .ok (.imul, 1) := by decide +kernel
theorem dX8_lowestFree_37 : decode cX8_lowestFree 37 = .ok (.iload_n 2, 1) := by decide +kernel
theorem dX8_lowestFree_38 : decode cX8_lowestFree 38 = .ok (.iadd, 1) := by decide +kernel
theorem dX8_lowestFree_39 : decode cX8_lowestFree 39 = .ok (.iaload, 1) := by decide +kernel
theorem dX8_lowestFree_40 : decode cX8_lowestFree 40 = .ok (.if_icmp .ge 7, 3) := by decide +kernel
theorem dX8_lowestFree_43 : decode cX8_lowestFree 43 = .ok (.iconst 1, 1) := by decide +kernel
theorem dX8_lowestFree_44 : decode cX8_lowestFree 44 = .ok (.goto 4, 3) := by decide +kernel
theorem dX8_lowestFree_47 : decode cX8_lowestFree 47 = .ok (.iconst 0, 1) := by decide +kernel
theorem dX8_lowestFree_48 : decode cX8_lowestFree 48 = .ok (.istore 4, 2) := by decide +kernel
theorem dX8_lowestFree_50 : decode cX8_lowestFree 50 = .ok (.aload_n 0, 1) := by decide +kernel
theorem dX8_lowestFree_51 : decode cX8_lowestFree 51 = .ok (.iload_n 1, 1) := by decide +kernel
theorem dX8_lowestFree_52 : decode cX8_lowestFree 52 = .ok (.iload_n 3, 1) := by decide +kernel
theorem dX8_lowestFree_53 : decode cX8_lowestFree 53 = .ok (.invokevirtual 241, 3) := by decide +kernel
theorem dX8_lowestFree_56 : decode cX8_lowestFree 56 = .ok (.ifCond .ge 12, 3) := by decide +kernel
theorem dX8_lowestFree_59 : decode cX8_lowestFree 59 = .ok (.iload 4, 2) := by decide +kernel
theorem dX8_lowestFree_61 : decode cX8_lowestFree 61 = .ok (.ifCond .eq 7, 3) := by decide +kernel
theorem dX8_lowestFree_64 : decode cX8_lowestFree 64 = .ok (.iload_n 3, 1) := by decide +kernel
theorem dX8_lowestFree_65 : decode cX8_lowestFree 65 = .ok (.goto 4, 3) := by decide +kernel
theorem dX8_lowestFree_68 : decode cX8_lowestFree 68 = .ok (.iload_n 2, 1) := by decide +kernel
theorem dX8_lowestFree_69 : decode cX8_lowestFree 69 = .ok (.istore_n 2, 1) := by decide +kernel
theorem dX8_lowestFree_70 : decode cX8_lowestFree 70 = .ok (.iinc 3 1, 3) := by decide +kernel
theorem dX8_lowestFree_73 : decode cX8_lowestFree 73 = .ok (.goto (-69), 3) := by decide +kernel
theorem dX8_lowestFree_76 : decode cX8_lowestFree 76 = .ok (.iload_n 2, 1) := by decide +kernel
theorem dX8_lowestFree_77 : decode cX8_lowestFree 77 = .ok (.ireturn, 1) := by decide +kernel
theorem dX8_comeNow_0 : decode cX8_comeNow 0 = .ok (.aload_n 0, 1) := by decide +kernel
theorem dX8_comeNow_1 : decode cX8_comeNow 1 = .ok (.getfield 37, 3) := by decide +kernel
theorem dX8_comeNow_4 : decode cX8_comeNow 4 = .ok (.iload_n 1, 1) := by decide +kernel
theorem dX8_comeNow_5 : decode cX8_comeNow 5 = .ok (.iload_n 2, 1) := by decide +kernel
theorem dX8_comeNow_6 : decode cX8_comeNow 6 = .ok (.iastore, 1) := by decide +kernel
theorem dX8_comeNow_7 : decode cX8_comeNow 7 = .ok (.aload_n 0, 1) := by decide +kernel
theorem dX8_comeNow_8 : decode cX8_comeNow 8 = .ok (.getfield 40, 3) := by decide +kernel
theorem dX8_comeNow_11 : decode cX8_comeNow 11 = .ok (.iload_n 1, 1) := by decide +kernel
theorem dX8_comeNow_12 : decode cX8_comeNow 12 = .ok (.iload_n 3, 1) := by decide +kernel
theorem dX8_comeNow_13 : decode cX8_comeNow 13 = .ok (.iastore, 1) := by decide +kernel
theorem dX8_comeNow_14 : decode cX8_comeNow 14 = .ok (.iconst 0, 1) := by decide +kernel
theorem dX8_comeNow_15 : decode cX8_comeNow 15 = .ok (.istore 4, 2) := by decide +kernel
theorem dX8_comeNow_17 : decode cX8_comeNow 17 = .ok (.iconst 1, 1) := by decide +kernel
theorem dX8_comeNow_18 : decode cX8_comeNow 18 = .ok (.istore 5, 2) := by decide +kernel
theorem dX8_comeNow_20 : decode cX8_comeNow 20 = .ok (.iload 5, 2) := by decide +kernel
theorem dX8_comeNow_22 : decode cX8_comeNow 22 = .ok (.ifCond .eq 117, 3) := by decide +kernel
theorem dX8_comeNow_25 : decode cX8_comeNow 25 = .ok (.aload_n 0, 1) := by decide +kernel
theorem dX8_comeNow_26 : decode cX8_comeNow 26 = .ok (.iload_n 2, 1) := by decide +kernel
theorem dX8_comeNow_27 : decode cX8_comeNow 27 = .ok (.invokevirtual 260, 3) := by decide +kernel
theorem dX8_comeNow_30 : decode cX8_comeNow 30 = .ok (.istore 6, 2) := by decide +kernel
theorem dX8_comeNow_32 : decode cX8_comeNow 32 = .ok (.aload_n 0, 1) := by decide +kernel
theorem dX8_comeNow_33 : decode cX8_comeNow 33 = .ok (.iload 6, 2) := by decide +kernel
theorem dX8_comeNow_35 : decode cX8_comeNow 35 = .ok (.invokevirtual 280, 3) := by decide +kernel
theorem dX8_comeNow_38 : decode cX8_comeNow 38 = .ok (.aload_n 0, 1) := by decide +kernel
theorem dX8_comeNow_39 : decode cX8_comeNow 39 = .ok (.iload 6, 2) := by decide +kernel
theorem dX8_comeNow_41 : decode cX8_comeNow 41 = .ok (.invokevirtual 283, 3) := by decide +kernel
theorem dX8_comeNow_44 : decode cX8_comeNow 44 = .ok (.istore 7, 2) := by decide +kernel
theorem dX8_comeNow_46 : decode cX8_comeNow 46 = .ok (.iload 7, 2) := by decide +kernel
theorem dX8_comeNow_48 : decode cX8_comeNow 48 = .ok (.ifCond .eq 7, 3) := by decide +kernel
theorem dX8_comeNow_51 : decode cX8_comeNow 51 = .ok (.iconst 1, 1) := by decide +kernel
theorem dX8_comeNow_52 : decode cX8_comeNow 52 = .ok (.goto 4, 3) := by decide +kernel
theorem dX8_comeNow_55 : decode cX8_comeNow 55 = .ok (.iconst 0, 1) := by decide +kernel
theorem dX8_comeNow_56 : decode cX8_comeNow 56 = .ok (.istore 5, 2) := by decide +kernel
theorem dX8_comeNow_58 : decode cX8_comeNow 58 = .ok (.iload 5, 2) := by decide +kernel
theorem dX8_comeNow_60 : decode cX8_comeNow 60 = .ok (.ifCond .eq 76, 3) := by decide +kernel
theorem dX8_comeNow_63 : decode cX8_comeNow 63 = .ok (.aload_n 0, 1) := by decide +kernel
theorem dX8_comeNow_64 : decode cX8_comeNow 64 = .ok (.iload 7, 2) := by decide +kernel
theorem dX8_comeNow_66 : decode cX8_comeNow 66 = .ok (.invokevirtual 270, 3) := by decide +kernel
theorem dX8_comeNow_69 : decode cX8_comeNow 69 = .ok (.istore 8, 2) := by decide +kernel
theorem dX8_comeNow_71 : decode cX8_comeNow 71 = .ok (.aload_n 0, 1) := by decide +kernel
theorem dX8_comeNow_72 : decode cX8_comeNow 72 = .ok (.iload_n 2, 1) := by decide +kernel
theorem dX8_comeNow_73 : decode cX8_comeNow 73 = .ok (.invokevirtual 297, 3) := by decide +kernel
theorem dX8_comeNow_76 : decode cX8_comeNow 76 = .ok (.istore 9, 2) := by decide +kernel
theorem dX8_comeNow_78 : decode cX8_comeNow 78 = .ok (.iload 9, 2) := by decide +kernel
theorem dX8_comeNow_80 : decode cX8_comeNow 80 = .ok (.ifCond .lt 47, 3) := by decide +kernel
theorem dX8_comeNow_83 : decode cX8_comeNow 83 = .ok (.aload_n 0, 1) := by decide +kernel
theorem dX8_comeNow_84 : decode cX8_comeNow 84 = .ok (.getfield 13, 3) := by decide +kernel
theorem dX8_comeNow_87 : decode cX8_comeNow 87 = .ok (.bipush 6, 2) := by decide +kernel
theorem dX8_comeNow_89 : decode cX8_comeNow 89 = .ok (.iload_n 2, 1) := by decide +kernel
theorem dX8_comeNow_90 : decode cX8_comeNow 90 = .ok (.imul, 1) := by decide +kernel
theorem dX8_comeNow_91 : decode cX8_comeNow 91 = .ok (.iload 9, 2) := by decide +kernel
theorem dX8_comeNow_93 : decode cX8_comeNow 93 = .ok (.iadd, 1) := by decide +kernel
theorem dX8_comeNow_94 : decode cX8_comeNow 94 = .ok (.iaload, 1) := by decide +kernel
theorem dX8_comeNow_95 : decode cX8_comeNow 95 = .ok (.aload_n 0, 1) := by decide +kernel
theorem dX8_comeNow_96 : decode cX8_comeNow 96 = .ok (.getfield 13, 3) := by decide +kernel
theorem dX8_comeNow_99 : decode cX8_comeNow 99 = .ok (.bipush 6, 2) := by decide +kernel
theorem dX8_comeNow_101 : decode cX8_comeNow 101 = .ok (.iload_n 2, 1) := by decide +kernel
theorem dX8_comeNow_102 : decode cX8_comeNow 102 = .ok (.imul, 1) := by decide +kernel
theorem dX8_comeNow_103 : decode cX8_comeNow 103 = .ok (.aload_n 0, 1) := by decide +kernel
theorem dX8_comeNow_104 : decode cX8_comeNow 104 = .ok (.getfield 40, 3) := by decide +kernel
theorem dX8_comeNow_107 : decode cX8_comeNow 107 = .ok (.iload 8, 2) := by decide +kernel
theorem dX8_comeNow_109 : decode cX8_comeNow 109 = .ok (.iaload, 1) := by decide +kernel
theorem dX8_comeNow_110 : decode cX8_comeNow 110 = .ok (.iadd, 1) := by decide +kernel
theorem dX8_comeNow_111 : decode cX8_comeNow 111 = .ok (.iaload, 1) := by decide +kernel
theorem dX8_comeNow_112 : decode cX8_comeNow 112 = .ok (.if_icmp .ge 15, 3) := by decide +kernel
theorem dX8_comeNow_115 : decode cX8_comeNow 115 = .ok (.aload_n 0, 1) := by decide +kernel
theorem dX8_comeNow_116 : decode cX8_comeNow 116 = .ok (.getfield 40, 3) := by decide +kernel
theorem dX8_comeNow_119 : decode cX8_comeNow 119 = .ok (.iload 8, 2) := by decide +kernel
theorem dX8_comeNow_121 : decode cX8_comeNow 121 = .ok (.iload 9, 2) := by decide +kernel
theorem dX8_comeNow_123 : decode cX8_comeNow 123 = .ok (.iastore, 1) := by decide +kernel
theorem dX8_comeNow_124 : decode cX8_comeNow 124 = .ok (.goto 9, 3) := by decide +kernel
theorem dX8_comeNow_127 : decode cX8_comeNow 127 = .ok (.aload_n 0, 1) := by decide +kernel
theorem dX8_comeNow_128 : decode cX8_comeNow 128 = .ok (.iload 8, 2) := by decide +kernel
theorem dX8_comeNow_130 : decode cX8_comeNow 130 = .ok (.invokevirtual 263, 3) := by decide +kernel
theorem dX8_comeNow_133 : decode cX8_comeNow 133 = .ok (.iinc 4 1, 3) := by decide +kernel
theorem dX8_comeNow_136 : decode cX8_comeNow 136 = .ok (.goto (-116), 3) := by decide +kernel
theorem dX8_comeNow_139 : decode cX8_comeNow 139 = .ok (.aload_n 0, 1) := by decide +kernel
theorem dX8_comeNow_140 : decode cX8_comeNow 140 = .ok (.iload_n 2, 1) := by decide +kernel
theorem dX8_comeNow_141 : decode cX8_comeNow 141 = .ok (.invokevirtual 286, 3) := by decide +kernel
theorem dX8_comeNow_144 : decode cX8_comeNow 144 = .ok (.istore 6, 2) := by decide +kernel
theorem dX8_comeNow_146 : decode cX8_comeNow 146 = .ok (.iload 4, 2) := by decide +kernel
theorem dX8_comeNow_148 : decode cX8_comeNow 148 = .ok (.ireturn, 1) := by decide +kernel
theorem dX8_come_0 : decode cX8_come 0 = .ok (.aload_n 0, 1) := by decide +kernel
theorem dX8_come_1 : decode cX8_come 1 = .ok (.iload_n 1, 1) := by decide +kernel
theorem dX8_come_2 : decode cX8_come 2 = .ok (.invokevirtual 248, 3) := by decide +kernel
theorem dX8_come_5 : decode cX8_come 5 = .ok (.ifCond .eq 12, 3) := by decide +kernel
theorem dX8_come_8 : decode cX8_come 8 = .ok (.aload_n 0, 1) := by decide +kernel
theorem dX8_come_9 : decode cX8_come 9 = .ok (.iload_n 2, 1) := by decide +kernel
theorem dX8_come_10 : decode cX8_come 10 = .ok (.iload_n 3, 1) := by decide +kernel
theorem dX8_come_11 : decode cX8_come 11 = .ok (.invokevirtual 236, 3) := by decide +kernel
theorem dX8_come_14 : decode cX8_come 14 = .ok (.ifCond .ne 6, 3) := by decide +kernel
theorem dX8_come_17 : decode cX8_come 17 = .ok (.ldc 240, 2) := by decide +kernel
theorem dX8_come_19 : decode cX8_come 19 = .ok (.ireturn, 1) := by decide +kernel
theorem dX8_come_20 : decode cX8_come 20 = .ok (.aload_n 0, 1) := by decide +kernel
theorem dX8_come_21 : decode cX8_come 21 = .ok (.iload_n 1, 1) := by decide +kernel
theorem dX8_come_22 : decode cX8_come 22 = .ok (.iload_n 2, 1) := by decide +kernel
theorem dX8_come_23 : decode cX8_come 23 = .ok (.iload_n 3, 1) := by decide +kernel
theorem dX8_come_24 : decode cX8_come 24 = .ok (.invokevirtual 255, 3) := by decide +kernel
theorem dX8_come_27 : decode cX8_come 27 = .ok (.ifCond .eq 13, 3) := by decide +kernel
theorem dX8_come_30 : decode cX8_come 30 = .ok (.aload_n 0, 1) := by decide +kernel
theorem dX8_come_31 : decode cX8_come 31 = .ok (.iload_n 1, 1) := by decide +kernel
theorem dX8_come_32 : decode cX8_come 32 = .ok (.iload_n 2, 1) := by decide +kernel
theorem dX8_come_33 : decode cX8_come 33 = .ok (.iload_n 3, 1) := by decide +kernel
theorem dX8_come_34 : decode cX8_come 34 = .ok (.invokevirtual 300, 3) := by decide +kernel
theorem dX8_come_37 : decode cX8_come 37 = .ok (.goto 6, 3) := by decide +kernel
theorem dX8_come_40 : decode cX8_come 40 = .ok (.ldc_w 259, 3) := by decide +kernel
theorem dX8_come_43 : decode cX8_come 43 = .ok (.ireturn, 1) := by decide +kernel
theorem dX8_isParty_0 : decode cX8_isParty 0 = .ok (.iload_n 3, 1) := by decide +kernel
theorem dX8_isParty_1 : decode cX8_isParty 1 = .ok (.istore 4, 2) := by decide +kernel
theorem dX8_isParty_3 : decode cX8_isParty 3 = .ok (.iconst 0, 1) := by decide +kernel
theorem dX8_isParty_4 : decode cX8_isParty 4 = .ok (.istore 5, 2) := by decide +kernel
theorem dX8_isParty_6 : decode cX8_isParty 6 = .ok (.iconst 1, 1) := by decide +kernel
theorem dX8_isParty_7 : decode cX8_isParty 7 = .ok (.istore 6, 2) := by decide +kernel
theorem dX8_isParty_9 : decode cX8_isParty 9 = .ok (.aload_n 0, 1) := by decide +kernel
theorem dX8_isParty_10 : decode cX8_isParty 10 = .ok (.getfield 127, 3) := by decide +kernel
theorem dX8_isParty_13 : decode cX8_isParty 13 = .ok (.iconst 1, 1) := by decide +kernel
theorem dX8_isParty_14 : decode cX8_isParty 14 = .ok (.isub, 1) := by decide +kernel
theorem dX8_isParty_15 : decode cX8_isParty 15 = .ok (.istore 7, 2) := by decide +kernel
theorem dX8_isParty_17 : decode cX8_isParty 17 = .ok (.iload 7, 2) := by decide +kernel
theorem dX8_isParty_19 : decode cX8_isParty 19 = .ok (.ifCond .lt 86, 3) := by decide +kernel
theorem dX8_isParty_22 : decode cX8_isParty 22 = .ok (.iload_n 2, 1) := by decide +kernel
theorem dX8_isParty_23 : decode cX8_isParty 23 = .ok (.iload 7, 2) := by decide +kernel
theorem dX8_isParty_25 : decode cX8_isParty 25 = .ok (.invokestatic 267, 3) := by decide +kernel
theorem dX8_isParty_28 : decode cX8_isParty 28 = .ok (.ifCond .eq 71, 3) := by decide +kernel
theorem dX8_isParty_31 : decode cX8_isParty 31 = .ok (.aload_n 0, 1) := by decide +kernel
theorem dX8_isParty_32 : decode cX8_isParty 32 = .ok (.getfield 80, 3) := by decide +kernel
theorem dX8_isParty_35 : decode cX8_isParty 35 = .ok (.iload 7, 2) := by decide +kernel
theorem dX8_isParty_37 : decode cX8_isParty 37 = .ok (.iload 4, 2) := by decide +kernel
theorem dX8_isParty_39 : decode cX8_isParty 39 = .ok (.aload_n 0, 1) := by decide +kernel
theorem dX8_isParty_40 : decode cX8_isParty 40 = .ok (.getfield 7, 3) := by decide +kernel
theorem dX8_isParty_43 : decode cX8_isParty 43 = .ok (.iload_n 1, 1) := by decide +kernel
theorem dX8_isParty_44 : decode cX8_isParty 44 = .ok (.iaload, 1) := by decide +kernel
theorem dX8_isParty_45 : decode cX8_isParty 45 = .ok (.irem, 1) := by decide +kernel
theorem dX8_isParty_46 : decode cX8_isParty 46 = .ok (.iastore, 1) := by decide +kernel
theorem dX8_isParty_47 : decode cX8_isParty 47 = .ok (.iload 4, 2) := by decide +kernel
theorem dX8_isParty_49 : decode cX8_isParty 49 = .ok (.aload_n 0, 1) := by decide +kernel
theorem dX8_isParty_50 : decode cX8_isParty 50 = .ok (.getfield 7, 3) := by decide +kernel
theorem dX8_isParty_53 : decode cX8_isParty 53 = .ok (.iload_n 1, 1) := by decide +kernel
theorem dX8_isParty_54 : decode cX8_isParty 54 = .ok (.iaload, 1) := by decide +kernel
theorem dX8_isParty_55 : decode cX8_isParty 55 = .ok (.idiv, 1) := by decide +kernel
theorem dX8_isParty_56 : decode cX8_isParty 56 = .ok (.istore 4, 2) := by decide +kernel
theorem dX8_isParty_58 : decode cX8_isParty 58 = .ok (.iload 6, 2) := by decide +kernel
theorem dX8_isParty_60 : decode cX8_isParty 60 = .ok (.ifCond .eq 22, 3) := by decide +kernel
theorem dX8_isParty_63 : decode cX8_isParty 63 = .ok (.iload 5, 2) := by decide +kernel
theorem dX8_isParty_65 : decode cX8_isParty 65 = .ok (.aload_n 0, 1) := by decide +kernel
theorem dX8_isParty_66 : decode cX8_isParty 66 = .ok (.getfield 80, 3) := by decide +kernel
theorem dX8_isParty_69 : decode cX8_isParty 69 = .ok (.iload 7, 2) := by decide +kernel
theorem dX8_isParty_71 : decode cX8_isParty 71 = .ok (.iaload, 1) := by decide +kernel
theorem dX8_isParty_72 : decode cX8_isParty 72 = .ok (.invokestatic 267, 3) := by decide +kernel
theorem dX8_isParty_75 : decode cX8_isParty 75 = .ok (.ifCond .ne 7, 3) := by decide +kernel
theorem dX8_isParty_78 : decode cX8_isParty 78 = .ok (.iconst 1, 1) := by decide +kernel
theorem dX8_isParty_79 : decode cX8_isParty 79 = .ok (.goto 4, 3) := by decide +kernel
theorem dX8_isParty_82 : decode cX8_isParty 82 = .ok (.iconst 0, 1) := by decide +kernel
theorem dX8_isParty_83 : decode cX8_isParty 83 = .ok (.istore 6, 2) := by decide +kernel
theorem dX8_isParty_85 : decode cX8_isParty 85 = .ok (.iload 5, 2) := by decide +kernel
theorem dX8_isParty_87 : decode cX8_isParty 87 = .ok (.iconst 1, 1) := by decide +kernel
theorem dX8_isParty_88 : decode cX8_isParty 88 = .ok (.aload_n 0, 1) := by decide +kernel
theorem dX8_isParty_89 : decode cX8_isParty 89 = .ok (.getfield 80, 3) := by decide +kernel
theorem dX8_isParty_92 : decode cX8_isParty 92 = .ok (.iload 7, 2) := by decide +kernel
theorem dX8_isParty_94 : decode cX8_isParty 94 = .ok (.iaload, 1) := by decide +kernel
theorem dX8_isParty_95 : decode cX8_isParty 95 = .ok (.ishl, 1) := by decide +kernel
theorem dX8_isParty_96 : decode cX8_isParty 96 = .ok (.ior, 1) := by decide +kernel
theorem dX8_isParty_97 : decode cX8_isParty 97 = .ok (.istore 5, 2) := by decide +kernel
theorem dX8_isParty_99 : decode cX8_isParty 99 = .ok (.iinc 7 (-1), 3) := by decide +kernel
theorem dX8_isParty_102 : decode cX8_isParty 102 = .ok (.goto (-85), 3) := by decide +kernel
theorem dX8_isParty_105 : decode cX8_isParty 105 = .ok (.iload 6, 2) := by decide +kernel
theorem dX8_isParty_107 : decode cX8_isParty 107 = .ok (.ireturn, 1) := by decide +kernel
theorem dX8_partyOf_0 : decode cX8_partyOf 0 = .ok (.iload_n 2, 1) := by decide +kernel
theorem dX8_partyOf_1 : decode cX8_partyOf 1 = .ok (.invokestatic 303, 3) := by decide +kernel
theorem dX8_partyOf_4 : decode cX8_partyOf 4 = .ok (.istore_n 3, 1) := by decide +kernel
theorem dX8_partyOf_5 : decode cX8_partyOf 5 = .ok (.iload_n 3, 1) := by decide +kernel
theorem dX8_partyOf_6 : decode cX8_partyOf 6 = .ok (.aload_n 0, 1) := by decide +kernel
theorem dX8_partyOf_7 : decode cX8_partyOf 7 = .ok (.getfield 7, 3) := by decide +kernel
theorem dX8_partyOf_10 : decode cX8_partyOf 10 = .ok (.iload_n 1, 1) := by decide +kernel
theorem dX8_partyOf_11 : decode cX8_partyOf 11 = .ok (.iaload, 1) := by decide +kernel
theorem dX8_partyOf_12 : decode cX8_partyOf 12 = .ok (.if_icmp .le 7, 3) := by decide +kernel
theorem dX8_partyOf_15 : decode cX8_partyOf 15 = .ok (.ldc_w 279, 3) := by decide +kernel
theorem dX8_partyOf_18 : decode cX8_partyOf 18 = .ok (.ireturn, 1) := by decide +kernel
theorem dX8_partyOf_19 : decode cX8_partyOf 19 = .ok (.iconst 1, 1) := by decide +kernel
theorem dX8_partyOf_20 : decode cX8_partyOf 20 = .ok (.istore 4, 2) := by decide +kernel
theorem dX8_partyOf_22 : decode cX8_partyOf 22 = .ok (.iconst 0, 1) := by decide +kernel
theorem dX8_partyOf_23 : decode cX8_partyOf 23 = .ok (.istore 5, 2) := by decide +kernel
theorem dX8_partyOf_25 : decode cX8_partyOf 25 = .ok (.iload 5, 2) := by decide +kernel
theorem dX8_partyOf_27 : decode cX8_partyOf 27 = .ok (.iload_n 3, 1) := by decide +kernel
theorem dX8_partyOf_28 : decode cX8_partyOf 28 = .ok (.if_icmp .ge 20, 3) := by decide +kernel
theorem dX8_partyOf_31 : decode cX8_partyOf 31 = .ok (.iload 4, 2) := by decide +kernel
theorem dX8_partyOf_33 : decode cX8_partyOf 33 = .ok (.aload_n 0, 1) := by decide +kernel
theorem dX8_partyOf_34 : decode cX8_partyOf 34 = .ok (.getfield 7, 3) := by decide +kernel
theorem dX8_partyOf_37 : decode cX8_partyOf 37 = .ok (.iload_n 1, 1) := by decide +kernel
theorem dX8_partyOf_38 : decode cX8_partyOf 38 = .ok (.iaload, 1) := by decide +kernel
theorem dX8_partyOf_39 : decode cX8_partyOf 39 = .ok (.imul, 1) := by decide +kernel
theorem dX8_partyOf_40 : decode cX8_partyOf 40 = .ok (.istore 4, 2) := by decide +kernel
theorem dX8_partyOf_42 : decode cX8_partyOf 42 = .ok (.iinc 5 1, 3) := by decide +kernel
theorem dX8_partyOf_45 : decode cX8_partyOf 45 = .ok (.goto (-20), 3) := by decide +kernel
theorem dX8_partyOf_48 : decode cX8_partyOf 48 = .ok (.ldc_w 279, 3) := by decide +kernel
theorem dX8_partyOf_51 : decode cX8_partyOf 51 = .ok (.istore 5, 2) := by decide +kernel
theorem dX8_partyOf_53 : decode cX8_partyOf 53 = .ok (.iconst 0, 1) := by decide +kernel
theorem dX8_partyOf_54 : decode cX8_partyOf 54 = .ok (.istore 6, 2) := by decide +kernel
theorem dX8_partyOf_56 : decode cX8_partyOf 56 = .ok (.iload 6, 2) := by decide +kernel
theorem dX8_partyOf_58 : decode cX8_partyOf 58 = .ok (.iload 4, 2) := by decide +kernel
theorem dX8_partyOf_60 : decode cX8_partyOf 60 = .ok (.if_icmp .ge 134, 3) := by decide +kernel
theorem dX8_partyOf_63 : decode cX8_partyOf 63 = .ok (.aload_n 0, 1) := by decide +kernel
theorem dX8_partyOf_64 : decode cX8_partyOf 64 = .ok (.iload_n 1, 1) := by decide +kernel
theorem dX8_partyOf_65 : decode cX8_partyOf 65 = .ok (.iload_n 2, 1) := by decide +kernel
theorem dX8_partyOf_66 : decode cX8_partyOf 66 = .ok (.iload 6, 2) := by decide +kernel
theorem dX8_partyOf_68 : decode cX8_partyOf 68 = .ok (.invokevirtual 306, 3) := by decide +kernel
theorem dX8_partyOf_71 : decode cX8_partyOf 71 = .ok (.ifCond .eq 117, 3) := by decide +kernel
theorem dX8_partyOf_74 : decode cX8_partyOf 74 = .ok (.iconst 0, 1) := by decide +kernel
theorem dX8_partyOf_75 : decode cX8_partyOf 75 = .ok (.istore 7, 2) := by decide +kernel
theorem dX8_partyOf_77 : decode cX8_partyOf 77 = .ok (.iload 7, 2) := by decide +kernel
theorem dX8_partyOf_79 : decode cX8_partyOf 79 = .ok (.aload_n 0, 1) := by decide +kernel
theorem dX8_partyOf_80 : decode cX8_partyOf 80 = .ok (.getfield 127, 3) := by decide +kernel
theorem dX8_partyOf_83 : decode cX8_partyOf 83 = .ok (.if_icmp .ge 43, 3) := by decide +kernel
theorem dX8_partyOf_86 : decode cX8_partyOf 86 = .ok (.aload_n 0, 1) := by decide +kernel
theorem dX8_partyOf_87 : decode cX8_partyOf 87 = .ok (.getfield 74, 3) := by decide +kernel
theorem dX8_partyOf_90 : decode cX8_partyOf 90 = .ok (.iload 7, 2) := by decide +kernel
theorem dX8_partyOf_92 : decode cX8_partyOf 92 = .ok (.iload_n 2, 1) := by decide +kernel
theorem dX8_partyOf_93 : decode cX8_partyOf 93 = .ok (.iload 7, 2) := by decide +kernel
theorem dX8_partyOf_95 : decode cX8_partyOf 95 = .ok (.invokestatic 267, 3) := by decide +kernel
theorem dX8_partyOf_98 : decode cX8_partyOf 98 = .ok (.ifCond .eq 20, 3) := by decide +kernel
theorem dX8_partyOf_101 : decode cX8_partyOf 101 = .ok (.aload_n 0, 1) := by decide +kernel
theorem dX8_partyOf_102 : decode cX8_partyOf 102 = .ok (.iload 7, 2) := by decide +kernel
theorem dX8_partyOf_104 : decode cX8_partyOf 104 = .ok (.iload_n 1, 1) := by decide +kernel
theorem dX8_partyOf_105 : decode cX8_partyOf 105 = .ok (.aload_n 0, 1) := by decide +kernel
theorem dX8_partyOf_106 : decode cX8_partyOf 106 = .ok (.getfield 80, 3) := by decide +kernel
theorem dX8_partyOf_109 : decode cX8_partyOf 109 = .ok (.iload 7, 2) := by decide +kernel
theorem dX8_partyOf_111 : decode cX8_partyOf 111 = .ok (.iaload, 1) := by decide +kernel
theorem dX8_partyOf_112 : decode cX8_partyOf 112 = .ok (.invokevirtual 244, 3) := by decide +kernel
theorem dX8_partyOf_115 : decode cX8_partyOf 115 = .ok (.goto 4, 3) := by decide +kernel
theorem dX8_partyOf_118 : decode cX8_partyOf 118 = .ok (.iconst 0, 1) := by decide +kernel
theorem dX8_partyOf_119 : decode cX8_partyOf 119 = .ok (.iastore, 1) := by decide +kernel
theorem dX8_partyOf_120 : decode cX8_partyOf 120 = .ok (.iinc 7 1, 3) := by decide +kernel
theorem dX8_partyOf_123 : decode cX8_partyOf 123 = .ok (.goto (-46), 3) := by decide +kernel
theorem dX8_partyOf_126 : decode cX8_partyOf 126 = .ok (.aload_n 0, 1) := by decide +kernel
theorem dX8_partyOf_127 : decode cX8_partyOf 127 = .ok (.iload_n 2, 1) := by decide +kernel
theorem dX8_partyOf_128 : decode cX8_partyOf 128 = .ok (.invokevirtual 283, 3) := by decide +kernel
theorem dX8_partyOf_131 : decode cX8_partyOf 131 = .ok (.ifCond .eq 9, 3) := by decide +kernel
theorem dX8_partyOf_134 : decode cX8_partyOf 134 = .ok (.ldc_w 279, 3) := by decide +kernel
theorem dX8_partyOf_137 : decode cX8_partyOf 137 = .ok (.goto 8, 3) := by decide +kernel
theorem dX8_partyOf_140 : decode cX8_partyOf 140 = .ok (.aload_n 0, 1) := by decide +kernel
theorem dX8_partyOf_141 : decode cX8_partyOf 141 = .ok (.iload_n 2, 1) := by decide +kernel
theorem dX8_partyOf_142 : decode cX8_partyOf 142 = .ok (.invokevirtual 309, 3) := by decide +kernel
theorem dX8_partyOf_145 : decode cX8_partyOf 145 = .ok (.istore 7, 2) := by decide +kernel
theorem dX8_partyOf_147 : decode cX8_partyOf 147 = .ok (.iload 7, 2) := by decide +kernel
theorem dX8_partyOf_149 : decode cX8_partyOf 149 = .ok (.iload 5, 2) := by decide +kernel
theorem dX8_partyOf_151 : decode cX8_partyOf 151 = .ok (.if_icmp .ge 37, 3) := by decide +kernel
theorem dX8_partyOf_154 : decode cX8_partyOf 154 = .ok (.iload 7, 2) := by decide +kernel
theorem dX8_partyOf_156 : decode cX8_partyOf 156 = .ok (.istore 5, 2) := by decide +kernel
theorem dX8_partyOf_158 : decode cX8_partyOf 158 = .ok (.iconst 0, 1) := by decide +kernel
theorem dX8_partyOf_159 : decode cX8_partyOf 159 = .ok (.istore 8, 2) := by decide +kernel
theorem dX8_partyOf_161 : decode cX8_partyOf 161 = .ok (.iload 8, 2) := by decide +kernel
theorem dX8_partyOf_163 : decode cX8_partyOf 163 = .ok (.bipush 6, 2) := by decide +kernel
theorem dX8_partyOf_165 : decode cX8_partyOf 165 = .ok (.if_icmp .ge 23, 3) := by decide +kernel
theorem dX8_partyOf_168 : decode cX8_partyOf 168 = .ok (.aload_n 0, 1) := by decide +kernel
theorem dX8_partyOf_169 : decode cX8_partyOf 169 = .ok (.getfield 83, 3) := by decide +kernel
theorem dX8_partyOf_172 : decode cX8_partyOf 172 = .ok (.iload 8, 2) := by decide +kernel
theorem dX8_partyOf_174 : decode cX8_partyOf 174 = .ok (.aload_n 0, 1) := by decide +kernel
theorem dX8_partyOf_175 : decode cX8_partyOf 175 = .ok (.getfield 80, 3) := by decide +kernel
theorem dX8_partyOf_178 : decode cX8_partyOf 178 = .ok (.iload 8, 2) := by decide +kernel
theorem dX8_partyOf_180 : decode cX8_partyOf 180 = .ok (.iaload, 1) := by decide +kernel
theorem dX8_partyOf_181 : decode cX8_partyOf 181 = .ok (.iastore, 1) := by decide +kernel
theorem dX8_partyOf_182 : decode cX8_partyOf 182 = .ok (.iinc 8 1, 3) := by decide +kernel
theorem dX8_partyOf_185 : decode cX8_partyOf 185 = .ok (.goto (-24), 3) := by decide +kernel
theorem dX8_partyOf_188 : decode cX8_partyOf 188 = .ok (.iinc 6 1, 3) := by decide +kernel
theorem dX8_partyOf_191 : decode cX8_partyOf 191 = .ok (.goto (-135), 3) := by decide +kernel
theorem dX8_partyOf_194 : decode cX8_partyOf 194 = .ok (.iload 5, 2) := by decide +kernel
theorem dX8_partyOf_196 : decode cX8_partyOf 196 = .ok (.ireturn, 1) := by decide +kernel
theorem dX8_bowsOf_0 : decode cX8_bowsOf 0 = .ok (.iconst 0, 1) := by decide +kernel
theorem dX8_bowsOf_1 : decode cX8_bowsOf 1 = .ok (.istore_n 2, 1) := by decide +kernel
theorem dX8_bowsOf_2 : decode cX8_bowsOf 2 = .ok (.iconst 0, 1) := by decide +kernel
theorem dX8_bowsOf_3 : decode cX8_bowsOf 3 = .ok (.istore_n 3, 1) := by decide +kernel
theorem dX8_bowsOf_4 : decode cX8_bowsOf 4 = .ok (.iload_n 3, 1) := by decide +kernel
theorem dX8_bowsOf_5 : decode cX8_bowsOf 5 = .ok (.aload_n 0, 1) := by decide +kernel
theorem dX8_bowsOf_6 : decode cX8_bowsOf 6 = .ok (.getfield 127, 3) := by decide +kernel
theorem dX8_bowsOf_9 : decode cX8_bowsOf 9 = .ok (.if_icmp .ge 30, 3) := by decide +kernel
theorem dX8_bowsOf_12 : decode cX8_bowsOf 12 = .ok (.iload_n 2, 1) := by decide +kernel
theorem dX8_bowsOf_13 : decode cX8_bowsOf 13 = .ok (.iload_n 1, 1) := by decide +kernel
theorem dX8_bowsOf_14 : decode cX8_bowsOf 14 = .ok (.iload_n 3, 1) := by decide +kernel
theorem dX8_bowsOf_15 : decode cX8_bowsOf 15 = .ok (.invokestatic 267, 3) := by decide +kernel
theorem dX8_bowsOf_18 : decode cX8_bowsOf 18 = .ok (.ifCond .eq 12, 3) := by decide +kernel
theorem dX8_bowsOf_21 : decode cX8_bowsOf 21 = .ok (.aload_n 0, 1) := by decide +kernel
theorem dX8_bowsOf_22 : decode cX8_bowsOf 22 = .ok (.getfield 77, 3) := by decide +kernel
theorem dX8_bowsOf_25 : decode cX8_bowsOf 25 = .ok (.iload_n 3, 1) := by decide +kernel
theorem dX8_bowsOf_26 : decode cX8_bowsOf 26 = .ok (.iaload, 1) := by decide +kernel
theorem dX8_bowsOf_27 : decode cX8_bowsOf 27 = .ok (.goto 4, 3) := by decide +kernel
theorem dX8_bowsOf_30 : decode cX8_bowsOf 30 = .ok (.iconst 0, 1) := by decide +kernel
theorem dX8_bowsOf_31 : decode cX8_bowsOf 31 = .ok (.iadd, 1) := by decide +kernel
theorem dX8_bowsOf_32 : decode cX8_bowsOf 32 = .ok (.istore_n 2, 1) := by decide +kernel
theorem dX8_bowsOf_33 : decode cX8_bowsOf 33 = .ok (.iinc 3 1, 3) := by decide +kernel
theorem dX8_bowsOf_36 : decode cX8_bowsOf 36 = .ok (.goto (-32), 3) := by decide +kernel
theorem dX8_bowsOf_39 : decode cX8_bowsOf 39 = .ok (.iload_n 2, 1) := by decide +kernel
theorem dX8_bowsOf_40 : decode cX8_bowsOf 40 = .ok (.ireturn, 1) := by decide +kernel
theorem dX8_party_0 : decode cX8_party 0 = .ok (.aload_n 0, 1) := by decide +kernel
theorem dX8_party_1 : decode cX8_party 1 = .ok (.iload_n 1, 1) := by decide +kernel
theorem dX8_party_2 : decode cX8_party 2 = .ok (.invokevirtual 130, 3) := by decide +kernel
theorem dX8_party_5 : decode cX8_party 5 = .ok (.ifCond .eq 24, 3) := by decide +kernel
theorem dX8_party_8 : decode cX8_party 8 = .ok (.aload_n 0, 1) := by decide +kernel
theorem dX8_party_9 : decode cX8_party 9 = .ok (.iload_n 2, 1) := by decide +kernel
theorem dX8_party_10 : decode cX8_party 10 = .ok (.invokevirtual 312, 3) := by decide +kernel
theorem dX8_party_13 : decode cX8_party 13 = .ok (.ifCond .eq 16, 3) := by decide +kernel
theorem dX8_party_16 : decode cX8_party 16 = .ok (.iload_n 3, 1) := by decide +kernel
theorem dX8_party_17 : decode cX8_party 17 = .ok (.iconst (-1), 1) := by decide +kernel
theorem dX8_party_18 : decode cX8_party 18 = .ok (.if_icmp .eq 14, 3) := by decide +kernel
theorem dX8_party_21 : decode cX8_party 21 = .ok (.aload_n 0, 1) := by decide +kernel
theorem dX8_party_22 : decode cX8_party 22 = .ok (.iload_n 3, 1) := by decide +kernel
theorem dX8_party_23 : decode cX8_party 23 = .ok (.invokevirtual 248, 3) := by decide +kernel
theorem dX8_party_26 : decode cX8_party 26 = .ok (.ifCond .ne 6, 3) := by decide +kernel
theorem dX8_party_29 : decode cX8_party 29 = .ok (.ldc 240, 2) := by decide +kernel
theorem dX8_party_31 : decode cX8_party 31 = .ok (.ireturn, 1) := by decide +kernel
theorem dX8_party_32 : decode cX8_party 32 = .ok (.aload_n 0, 1) := by decide +kernel
theorem dX8_party_33 : decode cX8_party 33 = .ok (.iload_n 1, 1) := by decide +kernel
theorem dX8_party_34 : decode cX8_party 34 = .ok (.iload_n 2, 1) := by decide +kernel
theorem dX8_party_35 : decode cX8_party 35 = .ok (.invokevirtual 315, 3) := by decide +kernel
theorem dX8_party_38 : decode cX8_party 38 = .ok (.istore 4, 2) := by decide +kernel
theorem dX8_party_40 : decode cX8_party 40 = .ok (.iload 4, 2) := by decide +kernel
theorem dX8_party_42 : decode cX8_party 42 = .ok (.ldc_w 279, 3) := by decide +kernel
theorem dX8_party_45 : decode cX8_party 45 = .ok (.if_icmp .ge 8, 3) := by decide +kernel
theorem dX8_party_48 : decode cX8_party 48 = .ok (.iload_n 3, 1) := by decide +kernel
theorem dX8_party_49 : decode cX8_party 49 = .ok (.iconst (-1), 1) := by decide +kernel
theorem dX8_party_50 : decode cX8_party 50 = .ok (.if_icmp .ne 18, 3) := by decide +kernel
theorem dX8_party_53 : decode cX8_party 53 = .ok (.iload 4, 2) := by decide +kernel
theorem dX8_party_55 : decode cX8_party 55 = .ok (.ldc_w 279, 3) := by decide +kernel
theorem dX8_party_58 : decode cX8_party 58 = .ok (.if_icmp .lt 7, 3) := by decide +kernel
theorem dX8_party_61 : decode cX8_party 61 = .ok (.iconst (-1), 1) := by decide +kernel
theorem dX8_party_62 : decode cX8_party 62 = .ok (.goto 5, 3) := by decide +kernel
theorem dX8_party_65 : decode cX8_party 65 = .ok (.iload 4, 2) := by decide +kernel
theorem dX8_party_67 : decode cX8_party 67 = .ok (.ireturn, 1) := by decide +kernel
theorem dX8_party_68 : decode cX8_party 68 = .ok (.iload_n 2, 1) := by decide +kernel
theorem dX8_party_69 : decode cX8_party 69 = .ok (.iload_n 3, 1) := by decide +kernel
theorem dX8_party_70 : decode cX8_party 70 = .ok (.invokestatic 267, 3) := by decide +kernel
theorem dX8_party_73 : decode cX8_party 73 = .ok (.ifCond .eq 12, 3) := by decide +kernel
theorem dX8_party_76 : decode cX8_party 76 = .ok (.aload_n 0, 1) := by decide +kernel
theorem dX8_party_77 : decode cX8_party 77 = .ok (.getfield 83, 3) := by decide +kernel
theorem dX8_party_80 : decode cX8_party 80 = .ok (.iload_n 3, 1) := by decide +kernel
theorem dX8_party_81 : decode cX8_party 81 = .ok (.iaload, 1) := by decide +kernel
theorem dX8_party_82 : decode cX8_party 82 = .ok (.goto 4, 3) := by decide +kernel
theorem dX8_party_85 : decode cX8_party 85 = .ok (.iconst (-1), 1) := by decide +kernel
theorem dX8_party_86 : decode cX8_party 86 = .ok (.ireturn, 1) := by decide +kernel
theorem dX8_deal_0 : decode cX8_deal 0 = .ok (.iload_n 2, 1) := by decide +kernel
theorem dX8_deal_1 : decode cX8_deal 1 = .ok (.istore_n 3, 1) := by decide +kernel
theorem dX8_deal_2 : decode cX8_deal 2 = .ok (.aload_n 0, 1) := by decide +kernel
theorem dX8_deal_3 : decode cX8_deal 3 = .ok (.getfield 127, 3) := by decide +kernel
theorem dX8_deal_6 : decode cX8_deal 6 = .ok (.iconst 1, 1) := by decide +kernel
theorem dX8_deal_7 : decode cX8_deal 7 = .ok (.isub, 1) := by decide +kernel
theorem dX8_deal_8 : decode cX8_deal 8 = .ok (.istore 4, 2) := by decide +kernel
theorem dX8_deal_10 : decode cX8_deal 10 = .ok (.iload 4, 2) := by decide +kernel
theorem dX8_deal_12 : decode cX8_deal 12 = .ok (.ifCond .lt 55, 3) := by decide +kernel
theorem dX8_deal_15 : decode cX8_deal 15 = .ok (.aload_n 0, 1) := by decide +kernel
theorem dX8_deal_16 : decode cX8_deal 16 = .ok (.getfield 89, 3) := by decide +kernel
theorem dX8_deal_19 : decode cX8_deal 19 = .ok (.iload 4, 2) := by decide +kernel
theorem dX8_deal_21 : decode cX8_deal 21 = .ok (.iload_n 1, 1) := by decide +kernel
theorem dX8_deal_22 : decode cX8_deal 22 = .ok (.iload 4, 2) := by decide +kernel
theorem dX8_deal_24 : decode cX8_deal 24 = .ok (.invokestatic 267, 3) := by decide +kernel
theorem dX8_deal_27 : decode cX8_deal 27 = .ok (.ifCond .eq 12, 3) := by decide +kernel
theorem dX8_deal_30 : decode cX8_deal 30 = .ok (.iload_n 3, 1) := by decide +kernel
theorem dX8_deal_31 : decode cX8_deal 31 = .ok (.aload_n 0, 1) := by decide +kernel
theorem dX8_deal_32 : decode cX8_deal 32 = .ok (.getfield 120, 3) := by decide +kernel
theorem dX8_deal_35 : decode cX8_deal 35 = .ok (.irem, 1) := by decide +kernel
theorem dX8_deal_36 : decode cX8_deal 36 = .ok (.goto 4, 3) := by decide +kernel
theorem dX8_deal_39 : decode cX8_deal 39 = .ok (.iconst (-1), 1) := by decide +kernel
theorem dX8_deal_40 : decode cX8_deal 40 = .ok (.iastore, 1) := by decide +kernel
theorem dX8_deal_41 : decode cX8_deal 41 = .ok (.iload_n 3, 1) := by decide +kernel
theorem dX8_deal_42 : decode cX8_deal 42 = .ok (.iload_n 1, 1) := by decide +kernel
theorem dX8_deal_43 : decode cX8_deal 43 = .ok (.iload 4, 2) := by decide +kernel
theorem dX8_deal_45 : decode cX8_deal 45 = .ok (.invokestatic 267, 3) := by decide +kernel
theorem dX8_deal_48 : decode cX8_deal 48 = .ok (.ifCond .eq 10, 3) := by decide +kernel
theorem dX8_deal_51 : decode cX8_deal 51 = .ok (.aload_n 0, 1) := by decide +kernel
theorem dX8_deal_52 : decode cX8_deal 52 = .ok (.getfield 120, 3) := by decide +kernel
theorem dX8_deal_55 : decode cX8_deal 55 = .ok (.goto 4, 3) := by decide +kernel
theorem dX8_deal_58 : decode cX8_deal 58 = .ok (.iconst 1, 1) := by decide +kernel
theorem dX8_deal_59 : decode cX8_deal 59 = .ok (.idiv, 1) := by decide +kernel
theorem dX8_deal_60 : decode cX8_deal 60 = .ok (.istore_n 3, 1) := by decide +kernel
theorem dX8_deal_61 : decode cX8_deal 61 = .ok (.iinc 4 (-1), 3) := by decide +kernel
theorem dX8_deal_64 : decode cX8_deal 64 = .ok (.goto (-54), 3) := by decide +kernel
theorem dX8_deal_67 : decode cX8_deal 67 = .ok (.return_, 1) := by decide +kernel
theorem dX8_sumOf_0 : decode cX8_sumOf 0 = .ok (.iconst 0, 1) := by decide +kernel
theorem dX8_sumOf_1 : decode cX8_sumOf 1 = .ok (.istore_n 2, 1) := by decide +kernel
theorem dX8_sumOf_2 : decode cX8_sumOf 2 = .ok (.iconst 0, 1) := by decide +kernel
theorem dX8_sumOf_3 : decode cX8_sumOf 3 = .ok (.istore_n 3, 1) := by decide +kernel
theorem dX8_sumOf_4 : decode cX8_sumOf 4 = .ok (.iload_n 3, 1) := by decide +kernel
theorem dX8_sumOf_5 : decode cX8_sumOf 5 = .ok (.aload_n 0, 1) := by decide +kernel
theorem dX8_sumOf_6 : decode cX8_sumOf 6 = .ok (.getfield 120, 3) := by decide +kernel
theorem dX8_sumOf_9 : decode cX8_sumOf 9 = .ok (.if_icmp .ge 78, 3) := by decide +kernel
theorem dX8_sumOf_12 : decode cX8_sumOf 12 = .ok (.iconst 0, 1) := by decide +kernel
theorem dX8_sumOf_13 : decode cX8_sumOf 13 = .ok (.istore 4, 2) := by decide +kernel
theorem dX8_sumOf_15 : decode cX8_sumOf 15 = .ok (.iconst 0, 1) := by decide +kernel
theorem dX8_sumOf_16 : decode cX8_sumOf 16 = .ok (.istore 5, 2) := by decide +kernel
theorem dX8_sumOf_18 : decode cX8_sumOf 18 = .ok (.iload 5, 2) := by decide +kernel
theorem dX8_sumOf_20 : decode cX8_sumOf 20 = .ok (.aload_n 0, 1) := by decide +kernel
theorem dX8_sumOf_21 : decode cX8_sumOf 21 = .ok (.getfield 127, 3) := by decide +kernel
theorem dX8_sumOf_24 : decode cX8_sumOf 24 = .ok (.if_icmp .ge 42, 3) := by decide +kernel
theorem dX8_sumOf_27 : decode cX8_sumOf 27 = .ok (.iload 4, 2) := by decide +kernel
theorem dX8_sumOf_29 : decode cX8_sumOf 29 = .ok (.iload_n 1, 1) := by decide +kernel
theorem dX8_sumOf_30 : decode cX8_sumOf 30 = .ok (.iload 5, 2) := by decide +kernel
theorem dX8_sumOf_32 : decode cX8_sumOf 32 = .ok (.invokestatic 267, 3) := by decide +kernel
theorem dX8_sumOf_35 : decode cX8_sumOf 35 = .ok (.ifCond .eq 21, 3) := by decide +kernel
theorem dX8_sumOf_38 : decode cX8_sumOf 38 = .ok (.aload_n 0, 1) := by decide +kernel
theorem dX8_sumOf_39 : decode cX8_sumOf 39 = .ok (.getfield 89, 3) := by decide +kernel
theorem dX8_sumOf_42 : decode cX8_sumOf 42 = .ok (.iload 5, 2) := by decide +kernel
theorem dX8_sumOf_44 : decode cX8_sumOf 44 = .ok (.iaload, 1) := by decide +kernel
theorem dX8_sumOf_45 : decode cX8_sumOf 45 = .ok (.iload_n 3, 1) := by decide +kernel
theorem dX8_sumOf_46 : decode cX8_sumOf 46 = .ok (.if_icmp .ne 10, 3) := by decide +kernel
theorem dX8_sumOf_49 : decode cX8_sumOf 49 = .ok (.iconst 1, 1) := by decide +kernel
theorem dX8_sumOf_50 : decode cX8_sumOf 50 = .ok (.iload 5, 2) := by decide +kernel
theorem dX8_sumOf_52 : decode cX8_sumOf 52 = .ok (.ishl, 1) := by decide +kernel
theorem dX8_sumOf_53 : decode cX8_sumOf 53 = .ok (.goto 4, 3) := by decide +kernel
theorem dX8_sumOf_56 : decode cX8_sumOf 56 = .ok (.iconst 0, 1) := by decide +kernel
theorem dX8_sumOf_57 : decode cX8_sumOf 57 = .ok (.ior, 1) := by decide +kernel
theorem dX8_sumOf_58 : decode cX8_sumOf 58 = .ok (.istore 4, 2) := by decide +kernel
theorem dX8_sumOf_60 : decode cX8_sumOf 60 = .ok (.iinc 5 1, 3) := by decide +kernel
theorem dX8_sumOf_63 : decode cX8_sumOf 63 = .ok (.goto (-45), 3) := by decide +kernel
theorem dX8_sumOf_66 : decode cX8_sumOf 66 = .ok (.iload_n 2, 1) := by decide +kernel
theorem dX8_sumOf_67 : decode cX8_sumOf 67 = .ok (.aload_n 0, 1) := by decide +kernel
theorem dX8_sumOf_68 : decode cX8_sumOf 68 = .ok (.getfield 86, 3) := by decide +kernel
theorem dX8_sumOf_71 : decode cX8_sumOf 71 = .ok (.bipush 64, 2) := by decide +kernel
theorem dX8_sumOf_73 : decode cX8_sumOf 73 = .ok (.iload_n 3, 1) := by decide +kernel
theorem dX8_sumOf_74 : decode cX8_sumOf 74 = .ok (.imul, 1) := by decide +kernel
theorem dX8_sumOf_75 : decode cX8_sumOf 75 = .ok (.iload 4, 2) := by decide +kernel
theorem dX8_sumOf_77 : decode cX8_sumOf 77 = .ok (.iadd, 1) := by decide +kernel
theorem dX8_sumOf_78 : decode cX8_sumOf 78 = .ok (.iaload, 1) := by decide +kernel
theorem dX8_sumOf_79 : decode cX8_sumOf 79 = .ok (.iadd, 1) := by decide +kernel
theorem dX8_sumOf_80 : decode cX8_sumOf 80 = .ok (.istore_n 2, 1) := by decide +kernel
theorem dX8_sumOf_81 : decode cX8_sumOf 81 = .ok (.iinc 3 1, 3) := by decide +kernel
theorem dX8_sumOf_84 : decode cX8_sumOf 84 = .ok (.goto (-80), 3) := by decide +kernel
theorem dX8_sumOf_87 : decode cX8_sumOf 87 = .ok (.iload_n 2, 1) := by decide +kernel
theorem dX8_sumOf_88 : decode cX8_sumOf 88 = .ok (.ireturn, 1) := by decide +kernel
theorem dX8_weightOf_0 : decode cX8_weightOf 0 = .ok (.iconst 0, 1) := by decide +kernel
theorem dX8_weightOf_1 : decode cX8_weightOf 1 = .ok (.istore_n 2, 1) := by decide +kernel
theorem dX8_weightOf_2 : decode cX8_weightOf 2 = .ok (.iconst 0, 1) := by decide +kernel
theorem dX8_weightOf_3 : decode cX8_weightOf 3 = .ok (.istore_n 3, 1) := by decide +kernel
theorem dX8_weightOf_4 : decode cX8_weightOf 4 = .ok (.iload_n 3, 1) := by decide +kernel
theorem dX8_weightOf_5 : decode cX8_weightOf 5 = .ok (.aload_n 0, 1) := by decide +kernel
theorem dX8_weightOf_6 : decode cX8_weightOf 6 = .ok (.getfield 127, 3) := by decide +kernel
theorem dX8_weightOf_9 : decode cX8_weightOf 9 = .ok (.if_icmp .ge 76, 3) := by decide +kernel
theorem dX8_weightOf_12 : decode cX8_weightOf 12 = .ok (.iconst 0, 1) := by decide +kernel
theorem dX8_weightOf_13 : decode cX8_weightOf 13 = .ok (.istore 4, 2) := by decide +kernel
theorem dX8_weightOf_15 : decode cX8_weightOf 15 = .ok (.iload 4, 2) := by decide +kernel
theorem dX8_weightOf_17 : decode cX8_weightOf 17 = .ok (.iload_n 3, 1) := by decide +kernel
theorem dX8_weightOf_18 : decode cX8_weightOf 18 = .ok (.if_icmp .ge 61, 3) := by decide +kernel
theorem dX8_weightOf_21 : decode cX8_weightOf 21 = .ok (.iload_n 2, 1) := by decide +kernel
theorem dX8_weightOf_22 : decode cX8_weightOf 22 = .ok (.iload_n 1, 1) := by decide +kernel
theorem dX8_weightOf_23 : decode cX8_weightOf 23 = .ok (.iload_n 3, 1) := by decide +kernel
theorem dX8_weightOf_24 : decode cX8_weightOf 24 = .ok (.invokestatic 267, 3) := by decide +kernel
theorem dX8_weightOf_27 : decode cX8_weightOf 27 = .ok (.ifCond .eq 43, 3) := by decide +kernel
theorem dX8_weightOf_30 : decode cX8_weightOf 30 = .ok (.iload_n 1, 1) := by decide +kernel
theorem dX8_weightOf_31 : decode cX8_weightOf 31 = .ok (.iload 4, 2) := by decide +kernel
theorem dX8_weightOf_33 : decode cX8_weightOf 33 = .ok (.invokestatic 267, 3) := by decide +kernel
theorem dX8_weightOf_36 : decode cX8_weightOf 36 = .ok (.ifCond .eq 34, 3) := by decide +kernel
theorem dX8_weightOf_39 : decode cX8_weightOf 39 = .ok (.aload_n 0, 1) := by decide +kernel
theorem dX8_weightOf_40 : decode cX8_weightOf 40 = .ok (.getfield 89, 3) := by decide +kernel
theorem dX8_weightOf_43 : decode cX8_weightOf 43 = .ok (.iload_n 3, 1) := by decide +kernel
theorem dX8_weightOf_44 : decode cX8_weightOf 44 = .ok (.iaload, 1) := by decide +kernel
theorem dX8_weightOf_45 : decode cX8_weightOf 45 = .ok (.aload_n 0, 1) := by decide +kernel
theorem dX8_weightOf_46 : decode cX8_weightOf 46 = .ok (.getfield 89, 3) := by decide +kernel
theorem dX8_weightOf_49 : decode cX8_weightOf 49 = .ok (.iload 4, 2) := by decide +kernel
theorem dX8_weightOf_51 : decode cX8_weightOf 51 = .ok (.iaload, 1) := by decide +kernel
theorem dX8_weightOf_52 : decode cX8_weightOf 52 = .ok (.if_icmp .ne 18, 3) := by decide +kernel
theorem dX8_weightOf_55 : decode cX8_weightOf 55 = .ok (.aload_n 0, 1) := by decide +kernel
theorem dX8_weightOf_56 : decode cX8_weightOf 56 = .ok (.getfield 28, 3) := by decide +kernel
theorem dX8_weightOf_59 : decode cX8_weightOf 59 = .ok (.bipush 6, 2) := by decide +kernel
theorem dX8_weightOf_61 : decode cX8_weightOf 61 = .ok (.iload_n 3, 1) := by decide +kernel
theorem dX8_weightOf_62 : decode cX8_weightOf 62 = .ok (.imul, 1) := by decide +kernel
theorem dX8_weightOf_63 : decode cX8_weightOf 63 = .ok (.iload 4, 2) := by decide +kernel
theorem dX8_weightOf_65 : decode cX8_weightOf 65 = .ok (.iadd, 1) := by decide +kernel
theorem dX8_weightOf_66 : decode cX8_weightOf 66 = .ok (.iaload, 1) := by decide +kernel
theorem dX8_weightOf_67 : decode cX8_weightOf 67 = .ok (.goto 4, 3) := by decide +kernel
theorem dX8_weightOf_70 : decode cX8_weightOf 70 = .ok (.iconst 0, 1) := by decide +kernel
theorem dX8_weightOf_71 : decode cX8_weightOf 71 = .ok (.iadd, 1) := by decide +kernel
theorem dX8_weightOf_72 : decode cX8_weightOf 72 = .ok (.istore_n 2, 1) := by decide +kernel
theorem dX8_weightOf_73 : decode cX8_weightOf 73 = .ok (.iinc 4 1, 3) := by decide +kernel
theorem dX8_weightOf_76 : decode cX8_weightOf 76 = .ok (.goto (-61), 3) := by decide +kernel
theorem dX8_weightOf_79 : decode cX8_weightOf 79 = .ok (.iinc 3 1, 3) := by decide +kernel
theorem dX8_weightOf_82 : decode cX8_weightOf 82 = .ok (.goto (-78), 3) := by decide +kernel
theorem dX8_weightOf_85 : decode cX8_weightOf 85 = .ok (.iload_n 2, 1) := by decide +kernel
theorem dX8_weightOf_86 : decode cX8_weightOf 86 = .ok (.ireturn, 1) := by decide +kernel
theorem dX8_findFeast_0 : decode cX8_findFeast 0 = .ok (.iconst 1, 1) := by decide +kernel
theorem dX8_findFeast_1 : decode cX8_findFeast 1 = .ok (.istore_n 2, 1) := by decide +kernel
theorem dX8_findFeast_2 : decode cX8_findFeast 2 = .ok (.iconst 0, 1) := by decide +kernel
theorem dX8_findFeast_3 : decode cX8_findFeast 3 = .ok (.istore_n 3, 1) := by decide +kernel
theorem dX8_findFeast_4 : decode cX8_findFeast 4 = .ok (.iload_n 3, 1) := by decide +kernel
theorem dX8_findFeast_5 : decode cX8_findFeast 5 = .ok (.aload_n 0, 1) := by decide +kernel
theorem dX8_findFeast_6 : decode cX8_findFeast 6 = .ok (.getfield 127, 3) := by decide +kernel
theorem dX8_findFeast_9 : decode cX8_findFeast 9 = .ok (.if_icmp .ge 28, 3) := by decide +kernel
theorem dX8_findFeast_12 : decode cX8_findFeast 12 = .ok (.iload_n 2, 1) := by decide +kernel
theorem dX8_findFeast_13 : decode cX8_findFeast 13 = .ok (.iload_n 1, 1) := by decide +kernel
theorem dX8_findFeast_14 : decode cX8_findFeast 14 = .ok (.iload_n 3, 1) := by decide +kernel
theorem dX8_findFeast_15 : decode cX8_findFeast 15 = .ok (.invokestatic 267, 3) := by decide +kernel
theorem dX8_findFeast_18 : decode cX8_findFeast 18 = .ok (.ifCond .eq 10, 3) := by decide +kernel
theorem dX8_findFeast_21 : decode cX8_findFeast 21 = .ok (.aload_n 0, 1) := by decide +kernel
theorem dX8_findFeast_22 : decode cX8_findFeast 22 = .ok (.getfield 120, 3) := by decide +kernel
theorem dX8_findFeast_25 : decode cX8_findFeast 25 = .ok (.goto 4, 3) := by decide +kernel
theorem dX8_findFeast_28 : decode cX8_findFeast 28 = .ok (.iconst 1, 1) := by decide +kernel
theorem dX8_findFeast_29 : decode cX8_findFeast 29 = .ok (.imul, 1) := by decide +kernel
theorem dX8_findFeast_30 : decode cX8_findFeast 30 = .ok (.istore_n 2, 1) := by decide +kernel
theorem dX8_findFeast_31 : decode cX8_findFeast 31 = .ok (.iinc 3 1, 3) := by decide +kernel
theorem dX8_findFeast_34 : decode cX8_findFeast 34 = .ok (.goto (-30), 3) := by decide +kernel
theorem dX8_findFeast_37 : decode cX8_findFeast 37 = .ok (.iconst 0, 1) := by decide +kernel
theorem dX8_findFeast_38 : decode cX8_findFeast 38 = .ok (.istore_n 3, 1) := by decide +kernel
theorem dX8_findFeast_39 : decode cX8_findFeast 39 = .ok (.iload_n 3, 1) := by decide +kernel
theorem dX8_findFeast_40 : decode cX8_findFeast 40 = .ok (.aload_n 0, 1) := by decide +kernel
theorem dX8_findFeast_41 : decode cX8_findFeast 41 = .ok (.getfield 120, 3) := by decide +kernel
theorem dX8_findFeast_44 : decode cX8_findFeast 44 = .ok (.if_icmp .ge 63, 3) := by decide +kernel
theorem dX8_findFeast_47 : decode cX8_findFeast 47 = .ok (.iconst 0, 1) := by decide +kernel
theorem dX8_findFeast_48 : decode cX8_findFeast 48 = .ok (.istore 4, 2) := by decide +kernel
theorem dX8_findFeast_50 : decode cX8_findFeast 50 = .ok (.iload 4, 2) := by decide +kernel
theorem dX8_findFeast_52 : decode cX8_findFeast 52 = .ok (.iconst 1, 1) := by decide +kernel
theorem dX8_findFeast_53 : decode cX8_findFeast 53 = .ok (.aload_n 0, 1) := by decide +kernel
theorem dX8_findFeast_54 : decode cX8_findFeast 54 = .ok (.getfield 127, 3) := by decide +kernel
theorem dX8_findFeast_57 : decode cX8_findFeast 57 = .ok (.ishl, 1) := by decide +kernel
theorem dX8_findFeast_58 : decode cX8_findFeast 58 = .ok (.if_icmp .ge 43, 3) := by decide +kernel
theorem dX8_findFeast_61 : decode cX8_findFeast 61 = .ok (.aload_n 0, 1) := by decide +kernel
theorem dX8_findFeast_62 : decode cX8_findFeast 62 = .ok (.getfield 86, 3) := by decide +kernel
theorem dX8_findFeast_65 : decode cX8_findFeast 65 = .ok (.bipush 64, 2) := by decide +kernel
theorem dX8_findFeast_67 : decode cX8_findFeast 67 = .ok (.iload_n 3, 1) := by decide +kernel
theorem dX8_findFeast_68 : decode cX8_findFeast 68 = .ok (.imul, 1) := by decide +kernel
theorem dX8_findFeast_69 : decode cX8_findFeast 69 = .ok (.iload 4, 2) := by decide +kernel
theorem dX8_findFeast_71 : decode cX8_findFeast 71 = .ok (.iadd, 1) := by decide +kernel
theorem dX8_findFeast_72 : decode cX8_findFeast 72 = .ok (.iload 4, 2) := by decide +kernel
theorem dX8_findFeast_74 : decode cX8_findFeast 74 = .ok (.iload_n 1, 1) := by decide +kernel
theorem dX8_findFeast_75 : decode cX8_findFeast 75 = .ok (.iconst (-1), 1) := by decide +kernel
theorem dX8_findFeast_76 : decode cX8_findFeast 76 = .ok (.ixor, 1) := by decide +kernel
theorem dX8_findFeast_77 : decode cX8_findFeast 77 = .ok (.iand, 1) := by decide +kernel
theorem dX8_findFeast_78 : decode cX8_findFeast 78 = .ok (.ifCond .ne 13, 3) := by decide +kernel
theorem dX8_findFeast_81 : decode cX8_findFeast 81 = .ok (.aload_n 0, 1) := by decide +kernel
theorem dX8_findFeast_82 : decode cX8_findFeast 82 = .ok (.iload_n 3, 1) := by decide +kernel
theorem dX8_findFeast_83 : decode cX8_findFeast 83 = .ok (.iload 4, 2) := by decide +kernel
theorem dX8_findFeast_85 : decode cX8_findFeast 85 = .ok (.invokevirtual 315, 3) := by decide +kernel
theorem dX8_findFeast_88 : decode cX8_findFeast 88 = .ok (.goto 6, 3) := by decide +kernel
theorem dX8_findFeast_91 : decode cX8_findFeast 91 = .ok (.ldc_w 279, 3) := by decide +kernel
theorem dX8_findFeast_94 : decode cX8_findFeast 94 = .ok (.iastore, 1) := by decide +kernel
theorem dX8_findFeast_95 : decode cX8_findFeast 95 = .ok (.iinc 4 1, 3) := by decide +kernel
theorem dX8_findFeast_98 : decode cX8_findFeast 98 = .ok (.goto (-48), 3) := by decide +kernel
theorem dX8_findFeast_101 : decode cX8_findFeast 101 = .ok (.iinc 3 1, 3) := by decide +kernel
theorem dX8_findFeast_104 : decode cX8_findFeast 104 = .ok (.goto (-65), 3) := by decide +kernel
theorem dX8_findFeast_107 : decode cX8_findFeast 107 = .ok (.ldc_w 279, 3) := by decide +kernel
theorem dX8_findFeast_110 : decode cX8_findFeast 110 = .ok (.istore_n 3, 1) := by decide +kernel
theorem dX8_findFeast_111 : decode cX8_findFeast 111 = .ok (.aload_n 0, 1) := by decide +kernel
theorem dX8_findFeast_112 : decode cX8_findFeast 112 = .ok (.iconst (-1), 1) := by decide +kernel
theorem dX8_findFeast_113 : decode cX8_findFeast 113 = .ok (.putfield 318, 3) := by decide +kernel
theorem dX8_findFeast_116 : decode cX8_findFeast 116 = .ok (.iconst 0, 1) := by decide +kernel
theorem dX8_findFeast_117 : decode cX8_findFeast 117 = .ok (.istore 4, 2) := by decide +kernel
theorem dX8_findFeast_119 : decode cX8_findFeast 119 = .ok (.iload 4, 2) := by decide +kernel
theorem dX8_findFeast_121 : decode cX8_findFeast 121 = .ok (.iload_n 2, 1) := by decide +kernel
theorem dX8_findFeast_122 : decode cX8_findFeast 122 = .ok (.if_icmp .ge 98, 3) := by decide +kernel
theorem dX8_findFeast_125 : decode cX8_findFeast 125 = .ok (.aload_n 0, 1) := by decide +kernel
theorem dX8_findFeast_126 : decode cX8_findFeast 126 = .ok (.iload_n 1, 1) := by decide +kernel
theorem dX8_findFeast_127 : decode cX8_findFeast 127 = .ok (.iload 4, 2) := by decide +kernel
theorem dX8_findFeast_129 : decode cX8_findFeast 129 = .ok (.invokevirtual 321, 3) := by decide +kernel
theorem dX8_findFeast_132 : decode cX8_findFeast 132 = .ok (.aload_n 0, 1) := by decide +kernel
theorem dX8_findFeast_133 : decode cX8_findFeast 133 = .ok (.iload_n 1, 1) := by decide +kernel
theorem dX8_findFeast_134 : decode cX8_findFeast 134 = .ok (.invokevirtual 325, 3) := by decide +kernel
theorem dX8_findFeast_137 : decode cX8_findFeast 137 = .ok (.istore 5, 2) := by decide +kernel
theorem dX8_findFeast_139 : decode cX8_findFeast 139 = .ok (.aload_n 0, 1) := by decide +kernel
theorem dX8_findFeast_140 : decode cX8_findFeast 140 = .ok (.iload_n 1, 1) := by decide +kernel
theorem dX8_findFeast_141 : decode cX8_findFeast 141 = .ok (.invokevirtual 328, 3) := by decide +kernel
theorem dX8_findFeast_144 : decode cX8_findFeast 144 = .ok (.istore 6, 2) := by decide +kernel
theorem dX8_findFeast_146 : decode cX8_findFeast 146 = .ok (.iload 5, 2) := by decide +kernel
theorem dX8_findFeast_148 : decode cX8_findFeast 148 = .ok (.iload_n 3, 1) := by decide +kernel
theorem dX8_findFeast_149 : decode cX8_findFeast 149 = .ok (.if_icmp .lt 26, 3) := by decide +kernel
theorem dX8_findFeast_152 : decode cX8_findFeast 152 = .ok (.iload 5, 2) := by decide +kernel
theorem dX8_findFeast_154 : decode cX8_findFeast 154 = .ok (.iload_n 3, 1) := by decide +kernel
theorem dX8_findFeast_155 : decode cX8_findFeast 155 = .ok (.if_icmp .ne 59, 3) := by decide +kernel
theorem dX8_findFeast_158 : decode cX8_findFeast 158 = .ok (.iload 5, 2) := by decide +kernel
theorem dX8_findFeast_160 : decode cX8_findFeast 160 = .ok (.ldc_w 279, 3) := by decide +kernel
theorem dX8_findFeast_163 : decode cX8_findFeast 163 = .ok (.if_icmp .ge 51, 3) := by decide +kernel
theorem dX8_findFeast_166 : decode cX8_findFeast 166 = .ok (.iload 6, 2) := by decide +kernel
theorem dX8_findFeast_168 : decode cX8_findFeast 168 = .ok (.aload_n 0, 1) := by decide +kernel
theorem dX8_findFeast_169 : decode cX8_findFeast 169 = .ok (.getfield 318, 3) := by decide +kernel
theorem dX8_findFeast_172 : decode cX8_findFeast 172 = .ok (.if_icmp .le 42, 3) := by decide +kernel
theorem dX8_findFeast_175 : decode cX8_findFeast 175 = .ok (.iload 5, 2) := by decide +kernel
theorem dX8_findFeast_177 : decode cX8_findFeast 177 = .ok (.istore_n 3, 1) := by decide +kernel
theorem dX8_findFeast_178 : decode cX8_findFeast 178 = .ok (.aload_n 0, 1) := by decide +kernel
theorem dX8_findFeast_179 : decode cX8_findFeast 179 = .ok (.iload 6, 2) := by decide +kernel
theorem dX8_findFeast_181 : decode cX8_findFeast 181 = .ok (.putfield 318, 3) := by decide +kernel
theorem dX8_findFeast_184 : decode cX8_findFeast 184 = .ok (.iconst 0, 1) := by decide +kernel
theorem dX8_findFeast_185 : decode cX8_findFeast 185 = .ok (.istore 7, 2) := by decide +kernel
theorem dX8_findFeast_187 : decode cX8_findFeast 187 = .ok (.iload 7, 2) := by decide +kernel
theorem dX8_findFeast_189 : decode cX8_findFeast 189 = .ok (.bipush 6, 2) := by decide +kernel
theorem dX8_findFeast_191 : decode cX8_findFeast 191 = .ok (.if_icmp .ge 23, 3) := by decide +kernel
theorem dX8_findFeast_194 : decode cX8_findFeast 194 = .ok (.aload_n 0, 1) := by decide +kernel
theorem dX8_findFeast_195 : decode cX8_findFeast 195 = .ok (.getfield 92, 3) := by decide +kernel
theorem dX8_findFeast_198 : decode cX8_findFeast 198 = .ok (.iload 7, 2) := by decide +kernel
theorem dX8_findFeast_200 : decode cX8_findFeast 200 = .ok (.aload_n 0, 1) := by decide +kernel
theorem dX8_findFeast_201 : decode cX8_findFeast 201 = .ok (.getfield 89, 3) := by decide +kernel
theorem dX8_findFeast_204 : decode cX8_findFeast 204 = .ok (.iload 7, 2) := by decide +kernel
theorem dX8_findFeast_206 : decode cX8_findFeast 206 = .ok (.iaload, 1) := by decide +kernel
theorem dX8_findFeast_207 : decode cX8_findFeast 207 = .ok (.iastore, 1) := by decide +kernel
theorem dX8_findFeast_208 : decode cX8_findFeast 208 = .ok (.iinc 7 1, 3) := by decide +kernel
theorem dX8_findFeast_211 : decode cX8_findFeast 211 = .ok (.goto (-24), 3) := by decide +kernel
theorem dX8_findFeast_214 : decode cX8_findFeast 214 = .ok (.iinc 4 1, 3) := by decide +kernel
theorem dX8_findFeast_217 : decode cX8_findFeast 217 = .ok (.goto (-98), 3) := by decide +kernel
theorem dX8_findFeast_220 : decode cX8_findFeast 220 = .ok (.iload_n 3, 1) := by decide +kernel
theorem dX8_findFeast_221 : decode cX8_findFeast 221 = .ok (.ireturn, 1) := by decide +kernel
theorem dX8_feast_0 : decode cX8_feast 0 = .ok (.aload_n 0, 1) := by decide +kernel
theorem dX8_feast_1 : decode cX8_feast 1 = .ok (.iload_n 1, 1) := by decide +kernel
theorem dX8_feast_2 : decode cX8_feast 2 = .ok (.invokevirtual 312, 3) := by decide +kernel
theorem dX8_feast_5 : decode cX8_feast 5 = .ok (.ifCond .eq 22, 3) := by decide +kernel
theorem dX8_feast_8 : decode cX8_feast 8 = .ok (.iload_n 2, 1) := by decide +kernel
theorem dX8_feast_9 : decode cX8_feast 9 = .ok (.iconst (-1), 1) := by decide +kernel
theorem dX8_feast_10 : decode cX8_feast 10 = .ok (.if_icmp .eq 20, 3) := by decide +kernel
theorem dX8_feast_13 : decode cX8_feast 13 = .ok (.iload_n 2, 1) := by decide +kernel
theorem dX8_feast_14 : decode cX8_feast 14 = .ok (.bipush (-2), 2) := by decide +kernel
theorem dX8_feast_16 : decode cX8_feast 16 = .ok (.if_icmp .eq 14, 3) := by decide +kernel
theorem dX8_feast_19 : decode cX8_feast 19 = .ok (.aload_n 0, 1) := by decide +kernel
theorem dX8_feast_20 : decode cX8_feast 20 = .ok (.iload_n 2, 1) := by decide +kernel
theorem dX8_feast_21 : decode cX8_feast 21 = .ok (.invokevirtual 248, 3) := by decide +kernel
theorem dX8_feast_24 : decode cX8_feast 24 = .ok (.ifCond .ne 6, 3) := by decide +kernel
theorem dX8_feast_27 : decode cX8_feast 27 = .ok (.ldc 240, 2) := by decide +kernel
theorem dX8_feast_29 : decode cX8_feast 29 = .ok (.ireturn, 1) := by decide +kernel
theorem dX8_feast_30 : decode cX8_feast 30 = .ok (.aload_n 0, 1) := by decide +kernel
theorem dX8_feast_31 : decode cX8_feast 31 = .ok (.iload_n 1, 1) := by decide +kernel
theorem dX8_feast_32 : decode cX8_feast 32 = .ok (.invokevirtual 331, 3) := by decide +kernel
theorem dX8_feast_35 : decode cX8_feast 35 = .ok (.istore_n 3, 1) := by decide +kernel
theorem dX8_feast_36 : decode cX8_feast 36 = .ok (.iload_n 3, 1) := by decide +kernel
theorem dX8_feast_37 : decode cX8_feast 37 = .ok (.ldc_w 279, 3) := by decide +kernel
theorem dX8_feast_40 : decode cX8_feast 40 = .ok (.if_icmp .lt 5, 3) := by decide +kernel
theorem dX8_feast_43 : decode cX8_feast 43 = .ok (.iconst (-1), 1) := by decide +kernel
theorem dX8_feast_44 : decode cX8_feast 44 = .ok (.ireturn, 1) := by decide +kernel
theorem dX8_feast_45 : decode cX8_feast 45 = .ok (.iload_n 2, 1) := by decide +kernel
theorem dX8_feast_46 : decode cX8_feast 46 = .ok (.iconst (-1), 1) := by decide +kernel
theorem dX8_feast_47 : decode cX8_feast 47 = .ok (.if_icmp .ne 7, 3) := by decide +kernel
theorem dX8_feast_50 : decode cX8_feast 50 = .ok (.iload_n 3, 1) := by decide +kernel
theorem dX8_feast_51 : decode cX8_feast 51 = .ok (.goto 34, 3) := by decide +kernel
theorem dX8_feast_54 : decode cX8_feast 54 = .ok (.iload_n 2, 1) := by decide +kernel
theorem dX8_feast_55 : decode cX8_feast 55 = .ok (.bipush (-2), 2) := by decide +kernel
theorem dX8_feast_57 : decode cX8_feast 57 = .ok (.if_icmp .ne 10, 3) := by decide +kernel
theorem dX8_feast_60 : decode cX8_feast 60 = .ok (.aload_n 0, 1) := by decide +kernel
theorem dX8_feast_61 : decode cX8_feast 61 = .ok (.getfield 318, 3) := by decide +kernel
theorem dX8_feast_64 : decode cX8_feast 64 = .ok (.goto 21, 3) := by decide +kernel
theorem dX8_feast_67 : decode cX8_feast 67 = .ok (.iload_n 1, 1) := by decide +kernel
theorem dX8_feast_68 : decode cX8_feast 68 = .ok (.iload_n 2, 1) := by decide +kernel
theorem dX8_feast_69 : decode cX8_feast 69 = .ok (.invokestatic 267, 3) := by decide +kernel
theorem dX8_feast_72 : decode cX8_feast 72 = .ok (.ifCond .eq 12, 3) := by decide +kernel
theorem dX8_feast_75 : decode cX8_feast 75 = .ok (.aload_n 0, 1) := by decide +kernel
theorem dX8_feast_76 : decode cX8_feast 76 = .ok (.getfield 92, 3) := by decide +kernel
theorem dX8_feast_79 : decode cX8_feast 79 = .ok (.iload_n 2, 1) := by decide +kernel
theorem dX8_feast_80 : decode cX8_feast 80 = .ok (.iaload, 1) := by decide +kernel
theorem dX8_feast_81 : decode cX8_feast 81 = .ok (.goto 4, 3) := by decide +kernel
theorem dX8_feast_84 : decode cX8_feast 84 = .ok (.iconst (-1), 1) := by decide +kernel
theorem dX8_feast_85 : decode cX8_feast 85 = .ok (.ireturn, 1) := by decide +kernel
theorem dX8_cuts_0 : decode cX8_cuts 0 = .ok (.aload_n 0, 1) := by decide +kernel
theorem dX8_cuts_1 : decode cX8_cuts 1 = .ok (.iload_n 1, 1) := by decide +kernel
theorem dX8_cuts_2 : decode cX8_cuts 2 = .ok (.invokevirtual 130, 3) := by decide +kernel
theorem dX8_cuts_5 : decode cX8_cuts 5 = .ok (.ifCond .eq 11, 3) := by decide +kernel
theorem dX8_cuts_8 : decode cX8_cuts 8 = .ok (.aload_n 0, 1) := by decide +kernel
theorem dX8_cuts_9 : decode cX8_cuts 9 = .ok (.iload_n 2, 1) := by decide +kernel
theorem dX8_cuts_10 : decode cX8_cuts 10 = .ok (.invokevirtual 312, 3) := by decide +kernel
theorem dX8_cuts_13 : decode cX8_cuts 13 = .ok (.ifCond .ne 6, 3) := by decide +kernel
theorem dX8_cuts_16 : decode cX8_cuts 16 = .ok (.ldc 240, 2) := by decide +kernel
theorem dX8_cuts_18 : decode cX8_cuts 18 = .ok (.ireturn, 1) := by decide +kernel
theorem dX8_cuts_19 : decode cX8_cuts 19 = .ok (.iload_n 2, 1) := by decide +kernel
theorem dX8_cuts_20 : decode cX8_cuts 20 = .ok (.invokestatic 303, 3) := by decide +kernel
theorem dX8_cuts_23 : decode cX8_cuts 23 = .ok (.aload_n 0, 1) := by decide +kernel
theorem dX8_cuts_24 : decode cX8_cuts 24 = .ok (.getfield 7, 3) := by decide +kernel
theorem dX8_cuts_27 : decode cX8_cuts 27 = .ok (.iload_n 1, 1) := by decide +kernel
theorem dX8_cuts_28 : decode cX8_cuts 28 = .ok (.iaload, 1) := by decide +kernel
theorem dX8_cuts_29 : decode cX8_cuts 29 = .ok (.if_icmp .le 5, 3) := by decide +kernel
theorem dX8_cuts_32 : decode cX8_cuts 32 = .ok (.iconst (-1), 1) := by decide +kernel
theorem dX8_cuts_33 : decode cX8_cuts 33 = .ok (.ireturn, 1) := by decide +kernel
theorem dX8_cuts_34 : decode cX8_cuts 34 = .ok (.iconst 0, 1) := by decide +kernel
theorem dX8_cuts_35 : decode cX8_cuts 35 = .ok (.istore_n 3, 1) := by decide +kernel
theorem dX8_cuts_36 : decode cX8_cuts 36 = .ok (.iconst 0, 1) := by decide +kernel
theorem dX8_cuts_37 : decode cX8_cuts 37 = .ok (.istore 4, 2) := by decide +kernel
theorem dX8_cuts_39 : decode cX8_cuts 39 = .ok (.iload 4, 2) := by decide +kernel
theorem dX8_cuts_41 : decode cX8_cuts 41 = .ok (.aload_n 0, 1) := by decide +kernel
theorem dX8_cuts_42 : decode cX8_cuts 42 = .ok (.getfield 127, 3) := by decide +kernel
theorem dX8_cuts_45 : decode cX8_cuts 45 = .ok (.if_icmp .ge 54, 3) := by decide +kernel
theorem dX8_cuts_48 : decode cX8_cuts 48 = .ok (.aload_n 0, 1) := by decide +kernel
theorem dX8_cuts_49 : decode cX8_cuts 49 = .ok (.getfield 74, 3) := by decide +kernel
theorem dX8_cuts_52 : decode cX8_cuts 52 = .ok (.iload 4, 2) := by decide +kernel
theorem dX8_cuts_54 : decode cX8_cuts 54 = .ok (.iload_n 2, 1) := by decide +kernel
theorem dX8_cuts_55 : decode cX8_cuts 55 = .ok (.iload 4, 2) := by decide +kernel
theorem dX8_cuts_57 : decode cX8_cuts 57 = .ok (.invokestatic 267, 3) := by decide +kernel
theorem dX8_cuts_60 : decode cX8_cuts 60 = .ok (.ifCond .eq 14, 3) := by decide +kernel
theorem dX8_cuts_63 : decode cX8_cuts 63 = .ok (.aload_n 0, 1) := by decide +kernel
theorem dX8_cuts_64 : decode cX8_cuts 64 = .ok (.iload 4, 2) := by decide +kernel
theorem dX8_cuts_66 : decode cX8_cuts 66 = .ok (.iload_n 1, 1) := by decide +kernel
theorem dX8_cuts_67 : decode cX8_cuts 67 = .ok (.iload_n 3, 1) := by decide +kernel
theorem dX8_cuts_68 : decode cX8_cuts 68 = .ok (.invokevirtual 244, 3) := by decide +kernel
theorem dX8_cuts_71 : decode cX8_cuts 71 = .ok (.goto 4, 3) := by decide +kernel
theorem dX8_cuts_74 : decode cX8_cuts 74 = .ok (.iconst 0, 1) := by decide +kernel
theorem dX8_cuts_75 : decode cX8_cuts 75 = .ok (.iastore, 1) := by decide +kernel
theorem dX8_cuts_76 : decode cX8_cuts 76 = .ok (.iload_n 3, 1) := by decide +kernel
theorem dX8_cuts_77 : decode cX8_cuts 77 = .ok (.iload_n 2, 1) := by decide +kernel
theorem dX8_cuts_78 : decode cX8_cuts 78 = .ok (.iload 4, 2) := by decide +kernel
theorem dX8_cuts_80 : decode cX8_cuts 80 = .ok (.invokestatic 267, 3) := by decide +kernel
theorem dX8_cuts_83 : decode cX8_cuts 83 = .ok (.ifCond .eq 7, 3) := by decide +kernel
theorem dX8_cuts_86 : decode cX8_cuts 86 = .ok (.iconst 1, 1) := by decide +kernel
theorem dX8_cuts_87 : decode cX8_cuts 87 = .ok (.goto 4, 3) := by decide +kernel
theorem dX8_cuts_90 : decode cX8_cuts 90 = .ok (.iconst 0, 1) := by decide +kernel
theorem dX8_cuts_91 : decode cX8_cuts 91 = .ok (.iadd, 1) := by decide +kernel
theorem dX8_cuts_92 : decode cX8_cuts 92 = .ok (.istore_n 3, 1) := by decide +kernel
theorem dX8_cuts_93 : decode cX8_cuts 93 = .ok (.iinc 4 1, 3) := by decide +kernel
theorem dX8_cuts_96 : decode cX8_cuts 96 = .ok (.goto (-57), 3) := by decide +kernel
theorem dX8_cuts_99 : decode cX8_cuts 99 = .ok (.iload_n 2, 1) := by decide +kernel
theorem dX8_cuts_100 : decode cX8_cuts 100 = .ok (.istore 4, 2) := by decide +kernel
theorem dX8_cuts_102 : decode cX8_cuts 102 = .ok (.ldc_w 279, 3) := by decide +kernel
theorem dX8_cuts_105 : decode cX8_cuts 105 = .ok (.istore 5, 2) := by decide +kernel
theorem dX8_cuts_107 : decode cX8_cuts 107 = .ok (.iconst 0, 1) := by decide +kernel
theorem dX8_cuts_108 : decode cX8_cuts 108 = .ok (.istore 6, 2) := by decide +kernel
theorem dX8_cuts_110 : decode cX8_cuts 110 = .ok (.iload 4, 2) := by decide +kernel
theorem dX8_cuts_112 : decode cX8_cuts 112 = .ok (.ifCond .eq 112, 3) := by decide +kernel
theorem dX8_cuts_115 : decode cX8_cuts 115 = .ok (.aload_n 0, 1) := by decide +kernel
theorem dX8_cuts_116 : decode cX8_cuts 116 = .ok (.iload 4, 2) := by decide +kernel
theorem dX8_cuts_118 : decode cX8_cuts 118 = .ok (.invokevirtual 270, 3) := by decide +kernel
theorem dX8_cuts_121 : decode cX8_cuts 121 = .ok (.istore 7, 2) := by decide +kernel
theorem dX8_cuts_123 : decode cX8_cuts 123 = .ok (.iload 4, 2) := by decide +kernel
theorem dX8_cuts_125 : decode cX8_cuts 125 = .ok (.iconst 1, 1) := by decide +kernel
theorem dX8_cuts_126 : decode cX8_cuts 126 = .ok (.iload 7, 2) := by decide +kernel
theorem dX8_cuts_128 : decode cX8_cuts 128 = .ok (.ishl, 1) := by decide +kernel
theorem dX8_cuts_129 : decode cX8_cuts 129 = .ok (.iconst (-1), 1) := by decide +kernel
theorem dX8_cuts_130 : decode cX8_cuts 130 = .ok (.ixor, 1) := by decide +kernel
theorem dX8_cuts_131 : decode cX8_cuts 131 = .ok (.iand, 1) := by decide +kernel
theorem dX8_cuts_132 : decode cX8_cuts 132 = .ok (.istore 4, 2) := by decide +kernel
theorem dX8_cuts_134 : decode cX8_cuts 134 = .ok (.aload_n 0, 1) := by decide +kernel
theorem dX8_cuts_135 : decode cX8_cuts 135 = .ok (.getfield 74, 3) := by decide +kernel
theorem dX8_cuts_138 : decode cX8_cuts 138 = .ok (.iload 7, 2) := by decide +kernel
theorem dX8_cuts_140 : decode cX8_cuts 140 = .ok (.iaload, 1) := by decide +kernel
theorem dX8_cuts_141 : decode cX8_cuts 141 = .ok (.aload_n 0, 1) := by decide +kernel
theorem dX8_cuts_142 : decode cX8_cuts 142 = .ok (.getfield 22, 3) := by decide +kernel
theorem dX8_cuts_145 : decode cX8_cuts 145 = .ok (.iload 7, 2) := by decide +kernel
theorem dX8_cuts_147 : decode cX8_cuts 147 = .ok (.iaload, 1) := by decide +kernel
theorem dX8_cuts_148 : decode cX8_cuts 148 = .ok (.isub, 1) := by decide +kernel
theorem dX8_cuts_149 : decode cX8_cuts 149 = .ok (.iload 5, 2) := by decide +kernel
theorem dX8_cuts_151 : decode cX8_cuts 151 = .ok (.isub, 1) := by decide +kernel
theorem dX8_cuts_152 : decode cX8_cuts 152 = .ok (.istore 8, 2) := by decide +kernel
theorem dX8_cuts_154 : decode cX8_cuts 154 = .ok (.iload 6, 2) := by decide +kernel
theorem dX8_cuts_156 : decode cX8_cuts 156 = .ok (.iload 8, 2) := by decide +kernel
theorem dX8_cuts_158 : decode cX8_cuts 158 = .ok (.ifCond .le 8, 3) := by decide +kernel
theorem dX8_cuts_161 : decode cX8_cuts 161 = .ok (.iload 8, 2) := by decide +kernel
theorem dX8_cuts_163 : decode cX8_cuts 163 = .ok (.goto 4, 3) := by decide +kernel
theorem dX8_cuts_166 : decode cX8_cuts 166 = .ok (.iconst 0, 1) := by decide +kernel
theorem dX8_cuts_167 : decode cX8_cuts 167 = .ok (.iadd, 1) := by decide +kernel
theorem dX8_cuts_168 : decode cX8_cuts 168 = .ok (.istore 6, 2) := by decide +kernel
theorem dX8_cuts_170 : decode cX8_cuts 170 = .ok (.aload_n 0, 1) := by decide +kernel
theorem dX8_cuts_171 : decode cX8_cuts 171 = .ok (.getfield 74, 3) := by decide +kernel
theorem dX8_cuts_174 : decode cX8_cuts 174 = .ok (.iload 7, 2) := by decide +kernel
theorem dX8_cuts_176 : decode cX8_cuts 176 = .ok (.iaload, 1) := by decide +kernel
theorem dX8_cuts_177 : decode cX8_cuts 177 = .ok (.iload 5, 2) := by decide +kernel
theorem dX8_cuts_179 : decode cX8_cuts 179 = .ok (.if_icmp .ge 13, 3) := by decide +kernel
theorem dX8_cuts_182 : decode cX8_cuts 182 = .ok (.aload_n 0, 1) := by decide +kernel
theorem dX8_cuts_183 : decode cX8_cuts 183 = .ok (.getfield 74, 3) := by decide +kernel
theorem dX8_cuts_186 : decode cX8_cuts 186 = .ok (.iload 7, 2) := by decide +kernel
theorem dX8_cuts_188 : decode cX8_cuts 188 = .ok (.iaload, 1) := by decide +kernel
theorem dX8_cuts_189 : decode cX8_cuts 189 = .ok (.goto 5, 3) := by decide +kernel
theorem dX8_cuts_192 : decode cX8_cuts 192 = .ok (.iload 5, 2) := by decide +kernel
theorem dX8_cuts_194 : decode cX8_cuts 194 = .ok (.istore 9, 2) := by decide +kernel
theorem dX8_cuts_196 : decode cX8_cuts 196 = .ok (.iload 5, 2) := by decide +kernel
theorem dX8_cuts_198 : decode cX8_cuts 198 = .ok (.ldc_w 279, 3) := by decide +kernel
theorem dX8_cuts_201 : decode cX8_cuts 201 = .ok (.if_icmp .eq 11, 3) := by decide +kernel
theorem dX8_cuts_204 : decode cX8_cuts 204 = .ok (.aload_n 0, 1) := by decide +kernel
theorem dX8_cuts_205 : decode cX8_cuts 205 = .ok (.getfield 230, 3) := by decide +kernel
theorem dX8_cuts_208 : decode cX8_cuts 208 = .ok (.iconst 1, 1) := by decide +kernel
theorem dX8_cuts_209 : decode cX8_cuts 209 = .ok (.if_icmp .ne 8, 3) := by decide +kernel
theorem dX8_cuts_212 : decode cX8_cuts 212 = .ok (.iload 9, 2) := by decide +kernel
theorem dX8_cuts_214 : decode cX8_cuts 214 = .ok (.goto 5, 3) := by decide +kernel
theorem dX8_cuts_217 : decode cX8_cuts 217 = .ok (.iload 5, 2) := by decide +kernel
theorem dX8_cuts_219 : decode cX8_cuts 219 = .ok (.istore 5, 2) := by decide +kernel
theorem dX8_cuts_221 : decode cX8_cuts 221 = .ok (.goto (-111), 3) := by decide +kernel
theorem dX8_cuts_224 : decode cX8_cuts 224 = .ok (.iload 6, 2) := by decide +kernel
theorem dX8_cuts_226 : decode cX8_cuts 226 = .ok (.ireturn, 1) := by decide +kernel
theorem dX8_till_0 : decode cX8_till 0 = .ok (.iconst 0, 1) := by decide +kernel
theorem dX8_till_1 : decode cX8_till 1 = .ok (.istore_n 1, 1) := by decide +kernel
theorem dX8_till_2 : decode cX8_till 2 = .ok (.iload_n 1, 1) := by decide +kernel
theorem dX8_till_3 : decode cX8_till 3 = .ok (.bipush 6, 2) := by decide +kernel
theorem dX8_till_5 : decode cX8_till 5 = .ok (.if_icmp .ge 33, 3) := by decide +kernel
theorem dX8_till_8 : decode cX8_till 8 = .ok (.aload_n 0, 1) := by decide +kernel
theorem dX8_till_9 : decode cX8_till 9 = .ok (.getfield 95, 3) := by decide +kernel
theorem dX8_till_12 : decode cX8_till 12 = .ok (.iload_n 1, 1) := by decide +kernel
theorem dX8_till_13 : decode cX8_till 13 = .ok (.aload_n 0, 1) := by decide +kernel
theorem dX8_till_14 : decode cX8_till 14 = .ok (.getfield 31, 3) := by decide +kernel
theorem dX8_till_17 : decode cX8_till 17 = .ok (.iload_n 1, 1) := by decide +kernel
theorem dX8_till_18 : decode cX8_till 18 = .ok (.iaload, 1) := by decide +kernel
theorem dX8_till_19 : decode cX8_till 19 = .ok (.iastore, 1) := by decide +kernel
theorem dX8_till_20 : decode cX8_till 20 = .ok (.aload_n 0, 1) := by decide +kernel
theorem dX8_till_21 : decode cX8_till 21 = .ok (.getfield 98, 3) := by decide +kernel
theorem dX8_till_24 : decode cX8_till 24 = .ok (.iload_n 1, 1) := by decide +kernel
theorem dX8_till_25 : decode cX8_till 25 = .ok (.aload_n 0, 1) := by decide +kernel
theorem dX8_till_26 : decode cX8_till 26 = .ok (.getfield 34, 3) := by decide +kernel
theorem dX8_till_29 : decode cX8_till 29 = .ok (.iload_n 1, 1) := by decide +kernel
theorem dX8_till_30 : decode cX8_till 30 = .ok (.iaload, 1) := by decide +kernel
theorem dX8_till_31 : decode cX8_till 31 = .ok (.iastore, 1) := by decide +kernel
theorem dX8_till_32 : decode cX8_till 32 = .ok (.iinc 1 1, 3) := by decide +kernel
theorem dX8_till_35 : decode cX8_till 35 = .ok (.goto (-33), 3) := by decide +kernel
theorem dX8_till_38 : decode cX8_till 38 = .ok (.iconst 0, 1) := by decide +kernel
theorem dX8_till_39 : decode cX8_till 39 = .ok (.istore_n 1, 1) := by decide +kernel
theorem dX8_till_40 : decode cX8_till 40 = .ok (.iload_n 1, 1) := by decide +kernel
theorem dX8_till_41 : decode cX8_till 41 = .ok (.bipush 60, 2) := by decide +kernel
theorem dX8_till_43 : decode cX8_till 43 = .ok (.if_icmp .ge 20, 3) := by decide +kernel
theorem dX8_till_46 : decode cX8_till 46 = .ok (.aload_n 0, 1) := by decide +kernel
theorem dX8_till_47 : decode cX8_till 47 = .ok (.invokevirtual 294, 3) := by decide +kernel
theorem dX8_till_50 : decode cX8_till 50 = .ok (.ifCond .ne 13, 3) := by decide +kernel
theorem dX8_till_53 : decode cX8_till 53 = .ok (.aload_n 0, 1) := by decide +kernel
theorem dX8_till_54 : decode cX8_till 54 = .ok (.invokevirtual 291, 3) := by decide +kernel
theorem dX8_till_57 : decode cX8_till 57 = .ok (.iinc 1 1, 3) := by decide +kernel
theorem dX8_till_60 : decode cX8_till 60 = .ok (.goto (-20), 3) := by decide +kernel
theorem dX8_till_63 : decode cX8_till 63 = .ok (.iconst 0, 1) := by decide +kernel
theorem dX8_till_64 : decode cX8_till 64 = .ok (.istore_n 2, 1) := by decide +kernel
theorem dX8_till_65 : decode cX8_till 65 = .ok (.iload_n 2, 1) := by decide +kernel
theorem dX8_till_66 : decode cX8_till 66 = .ok (.bipush 6, 2) := by decide +kernel
theorem dX8_till_68 : decode cX8_till 68 = .ok (.if_icmp .ge 33, 3) := by decide +kernel
theorem dX8_till_71 : decode cX8_till 71 = .ok (.aload_n 0, 1) := by decide +kernel
theorem dX8_till_72 : decode cX8_till 72 = .ok (.getfield 31, 3) := by decide +kernel
theorem dX8_till_75 : decode cX8_till 75 = .ok (.iload_n 2, 1) := by decide +kernel
theorem dX8_till_76 : decode cX8_till 76 = .ok (.aload_n 0, 1) := by decide +kernel
theorem dX8_till_77 : decode cX8_till 77 = .ok (.getfield 95, 3) := by decide +kernel
theorem dX8_till_80 : decode cX8_till 80 = .ok (.iload_n 2, 1) := by decide +kernel
theorem dX8_till_81 : decode cX8_till 81 = .ok (.iaload, 1) := by decide +kernel
theorem dX8_till_82 : decode cX8_till 82 = .ok (.iastore, 1) := by decide +kernel
theorem dX8_till_83 : decode cX8_till 83 = .ok (.aload_n 0, 1) := by decide +kernel
theorem dX8_till_84 : decode cX8_till 84 = .ok (.getfield 34, 3) := by decide +kernel
theorem dX8_till_87 : decode cX8_till 87 = .ok (.iload_n 2, 1) := by decide +kernel
theorem dX8_till_88 : decode cX8_till 88 = .ok (.aload_n 0, 1) := by decide +kernel
theorem dX8_till_89 : decode cX8_till 89 = .ok (.getfield 98, 3) := by decide +kernel
theorem dX8_till_92 : decode cX8_till 92 = .ok (.iload_n 2, 1) := by decide +kernel
theorem dX8_till_93 : decode cX8_till 93 = .ok (.iaload, 1) := by decide +kernel
theorem dX8_till_94 : decode cX8_till 94 = .ok (.iastore, 1) := by decide +kernel
theorem dX8_till_95 : decode cX8_till 95 = .ok (.iinc 2 1, 3) := by decide +kernel
theorem dX8_till_98 : decode cX8_till 98 = .ok (.goto (-33), 3) := by decide +kernel
theorem dX8_till_101 : decode cX8_till 101 = .ok (.iload_n 1, 1) := by decide +kernel
theorem dX8_till_102 : decode cX8_till 102 = .ok (.ireturn, 1) := by decide +kernel
theorem dX8_isAged_0 : decode cX8_isAged 0 = .ok (.iconst 0, 1) := by decide +kernel
theorem dX8_isAged_1 : decode cX8_isAged 1 = .ok (.istore_n 3, 1) := by decide +kernel
theorem dX8_isAged_2 : decode cX8_isAged 2 = .ok (.iconst 0, 1) := by decide +kernel
theorem dX8_isAged_3 : decode cX8_isAged 3 = .ok (.istore 4, 2) := by decide +kernel
theorem dX8_isAged_5 : decode cX8_isAged 5 = .ok (.iload 4, 2) := by decide +kernel
theorem dX8_isAged_7 : decode cX8_isAged 7 = .ok (.aload_n 0, 1) := by decide +kernel
theorem dX8_isAged_8 : decode cX8_isAged 8 = .ok (.getfield 127, 3) := by decide +kernel
theorem dX8_isAged_11 : decode cX8_isAged 11 = .ok (.if_icmp .ge 41, 3) := by decide +kernel
theorem dX8_isAged_14 : decode cX8_isAged 14 = .ok (.iload_n 3, 1) := by decide +kernel
theorem dX8_isAged_15 : decode cX8_isAged 15 = .ok (.ifCond .ne 25, 3) := by decide +kernel
theorem dX8_isAged_18 : decode cX8_isAged 18 = .ok (.aload_n 0, 1) := by decide +kernel
theorem dX8_isAged_19 : decode cX8_isAged 19 = .ok (.getfield 37, 3) := by decide +kernel
theorem dX8_isAged_22 : decode cX8_isAged 22 = .ok (.iload 4, 2) := by decide +kernel
theorem dX8_isAged_24 : decode cX8_isAged 24 = .ok (.iaload, 1) := by decide +kernel
theorem dX8_isAged_25 : decode cX8_isAged 25 = .ok (.iload_n 1, 1) := by decide +kernel
theorem dX8_isAged_26 : decode cX8_isAged 26 = .ok (.if_icmp .ne 18, 3) := by decide +kernel
theorem dX8_isAged_29 : decode cX8_isAged 29 = .ok (.aload_n 0, 1) := by decide +kernel
theorem dX8_isAged_30 : decode cX8_isAged 30 = .ok (.getfield 31, 3) := by decide +kernel
theorem dX8_isAged_33 : decode cX8_isAged 33 = .ok (.iload 4, 2) := by decide +kernel
theorem dX8_isAged_35 : decode cX8_isAged 35 = .ok (.iaload, 1) := by decide +kernel
theorem dX8_isAged_36 : decode cX8_isAged 36 = .ok (.iload_n 2, 1) := by decide +kernel
theorem dX8_isAged_37 : decode cX8_isAged 37 = .ok (.if_icmp .ne 7, 3) := by decide +kernel
theorem dX8_isAged_40 : decode cX8_isAged 40 = .ok (.iconst 1, 1) := by decide +kernel
theorem dX8_isAged_41 : decode cX8_isAged 41 = .ok (.goto 4, 3) := by decide +kernel
theorem dX8_isAged_44 : decode cX8_isAged 44 = .ok (.iconst 0, 1) := by decide +kernel
theorem dX8_isAged_45 : decode cX8_isAged 45 = .ok (.istore_n 3, 1) := by decide +kernel
theorem dX8_isAged_46 : decode cX8_isAged 46 = .ok (.iinc 4 1, 3) := by decide +kernel
theorem dX8_isAged_49 : decode cX8_isAged 49 = .ok (.goto (-44), 3) := by decide +kernel
theorem dX8_isAged_52 : decode cX8_isAged 52 = .ok (.iload_n 3, 1) := by decide +kernel
theorem dX8_isAged_53 : decode cX8_isAged 53 = .ok (.ireturn, 1) := by decide +kernel
theorem dX8_isSuspect_0 : decode cX8_isSuspect 0 = .ok (.aload_n 0, 1) := by decide +kernel
theorem dX8_isSuspect_1 : decode cX8_isSuspect 1 = .ok (.getfield 31, 3) := by decide +kernel
theorem dX8_isSuspect_4 : decode cX8_isSuspect 4 = .ok (.iload_n 1, 1) := by decide +kernel
theorem dX8_isSuspect_5 : decode cX8_isSuspect 5 = .ok (.iaload, 1) := by decide +kernel
theorem dX8_isSuspect_6 : decode cX8_isSuspect 6 = .ok (.istore_n 3, 1) := by decide +kernel
theorem dX8_isSuspect_7 : decode cX8_isSuspect 7 = .ok (.iconst 0, 1) := by decide +kernel
theorem dX8_isSuspect_8 : decode cX8_isSuspect 8 = .ok (.istore 4, 2) := by decide +kernel
theorem dX8_isSuspect_10 : decode cX8_isSuspect 10 = .ok (.iconst 0, 1) := by decide +kernel
theorem dX8_isSuspect_11 : decode cX8_isSuspect 11 = .ok (.istore 5, 2) := by decide +kernel
theorem dX8_isSuspect_13 : decode cX8_isSuspect 13 = .ok (.iload 5, 2) := by decide +kernel
theorem dX8_isSuspect_15 : decode cX8_isSuspect 15 = .ok (.bipush 100, 2) := by decide +kernel
theorem dX8_isSuspect_17 : decode cX8_isSuspect 17 = .ok (.if_icmp .ge 54, 3) := by decide +kernel
theorem dX8_isSuspect_20 : decode cX8_isSuspect 20 = .ok (.iload 4, 2) := by decide +kernel
theorem dX8_isSuspect_22 : decode cX8_isSuspect 22 = .ok (.ifCond .ne 49, 3) := by decide +kernel
theorem dX8_isSuspect_25 : decode cX8_isSuspect 25 = .ok (.aload_n 0, 1) := by decide +kernel
theorem dX8_isSuspect_26 : decode cX8_isSuspect 26 = .ok (.iload_n 2, 1) := by decide +kernel
theorem dX8_isSuspect_27 : decode cX8_isSuspect 27 = .ok (.iload 5, 2) := by decide +kernel
theorem dX8_isSuspect_29 : decode cX8_isSuspect 29 = .ok (.invokevirtual 334, 3) := by decide +kernel
theorem dX8_isSuspect_32 : decode cX8_isSuspect 32 = .ok (.ifCond .ne 33, 3) := by decide +kernel
theorem dX8_isSuspect_35 : decode cX8_isSuspect 35 = .ok (.aload_n 0, 1) := by decide +kernel
theorem dX8_isSuspect_36 : decode cX8_isSuspect 36 = .ok (.getfield 31, 3) := by decide +kernel
theorem dX8_isSuspect_39 : decode cX8_isSuspect 39 = .ok (.iload_n 1, 1) := by decide +kernel
theorem dX8_isSuspect_40 : decode cX8_isSuspect 40 = .ok (.iload 5, 2) := by decide +kernel
theorem dX8_isSuspect_42 : decode cX8_isSuspect 42 = .ok (.iastore, 1) := by decide +kernel
theorem dX8_isSuspect_43 : decode cX8_isSuspect 43 = .ok (.aload_n 0, 1) := by decide +kernel
theorem dX8_isSuspect_44 : decode cX8_isSuspect 44 = .ok (.iload_n 2, 1) := by decide +kernel
theorem dX8_isSuspect_45 : decode cX8_isSuspect 45 = .ok (.invokevirtual 276, 3) := by decide +kernel
theorem dX8_isSuspect_48 : decode cX8_isSuspect 48 = .ok (.ifCond .ge 7, 3) := by decide +kernel
theorem dX8_isSuspect_51 : decode cX8_isSuspect 51 = .ok (.iconst 1, 1) := by decide +kernel
theorem dX8_isSuspect_52 : decode cX8_isSuspect 52 = .ok (.goto 4, 3) := by decide +kernel
theorem dX8_isSuspect_55 : decode cX8_isSuspect 55 = .ok (.iconst 0, 1) := by decide +kernel
theorem dX8_isSuspect_56 : decode cX8_isSuspect 56 = .ok (.istore 4, 2) := by decide +kernel
theorem dX8_isSuspect_58 : decode cX8_isSuspect 58 = .ok (.aload_n 0, 1) := by decide +kernel
theorem dX8_isSuspect_59 : decode cX8_isSuspect 59 = .ok (.getfield 31, 3) := by decide +kernel
theorem dX8_isSuspect_62 : decode cX8_isSuspect 62 = .ok (.iload_n 1, 1) := by decide +kernel
theorem dX8_isSuspect_63 : decode cX8_isSuspect 63 = .ok (.iload_n 3, 1) := by decide +kernel
theorem dX8_isSuspect_64 : decode cX8_isSuspect 64 = .ok (.iastore, 1) := by decide +kernel
theorem dX8_isSuspect_65 : decode cX8_isSuspect 65 = .ok (.iinc 5 1, 3) := by decide +kernel
theorem dX8_isSuspect_68 : decode cX8_isSuspect 68 = .ok (.goto (-55), 3) := by decide +kernel
theorem dX8_isSuspect_71 : decode cX8_isSuspect 71 = .ok (.iload 4, 2) := by decide +kernel
theorem dX8_isSuspect_73 : decode cX8_isSuspect 73 = .ok (.ireturn, 1) := by decide +kernel
theorem dX8_isHeeled_0 : decode cX8_isHeeled 0 = .ok (.aload_n 0, 1) := by decide +kernel
theorem dX8_isHeeled_1 : decode cX8_isHeeled 1 = .ok (.getfield 34, 3) := by decide +kernel
theorem dX8_isHeeled_4 : decode cX8_isHeeled 4 = .ok (.iload_n 1, 1) := by decide +kernel
theorem dX8_isHeeled_5 : decode cX8_isHeeled 5 = .ok (.dup2, 1) := by decide +kernel
theorem dX8_isHeeled_6 : decode cX8_isHeeled 6 = .ok (.iaload, 1) := by decide +kernel
theorem dX8_isHeeled_7 : decode cX8_isHeeled 7 = .ok (.iconst 1, 1) := by decide +kernel
theorem dX8_isHeeled_8 : decode cX8_isHeeled 8 = .ok (.isub, 1) := by decide +kernel
theorem dX8_isHeeled_9 : decode cX8_isHeeled 9 = .ok (.iastore, 1) := by decide +kernel
theorem dX8_isHeeled_10 : decode cX8_isHeeled 10 = .ok (.aload_n 0, 1) := by decide +kernel
theorem dX8_isHeeled_11 : decode cX8_isHeeled 11 = .ok (.iload_n 2, 1) := by decide +kernel
theorem dX8_isHeeled_12 : decode cX8_isHeeled 12 = .ok (.invokevirtual 276, 3) := by decide +kernel
theorem dX8_isHeeled_15 : decode cX8_isHeeled 15 = .ok (.ifCond .ge 7, 3) := by decide +kernel
theorem dX8_isHeeled_18 : decode cX8_isHeeled 18 = .ok (.iconst 1, 1) := by decide +kernel
theorem dX8_isHeeled_19 : decode cX8_isHeeled 19 = .ok (.goto 4, 3) := by decide +kernel
theorem dX8_isHeeled_22 : decode cX8_isHeeled 22 = .ok (.iconst 0, 1) := by decide +kernel
theorem dX8_isHeeled_23 : decode cX8_isHeeled 23 = .ok (.istore_n 3, 1) := by decide +kernel
theorem dX8_isHeeled_24 : decode cX8_isHeeled 24 = .ok (.aload_n 0, 1) := by decide +kernel
theorem dX8_isHeeled_25 : decode cX8_isHeeled 25 = .ok (.getfield 34, 3) := by decide +kernel
theorem dX8_isHeeled_28 : decode cX8_isHeeled 28 = .ok (.iload_n 1, 1) := by decide +kernel
theorem dX8_isHeeled_29 : decode cX8_isHeeled 29 = .ok (.dup2, 1) := by decide +kernel
theorem dX8_isHeeled_30 : decode cX8_isHeeled 30 = .ok (.iaload, 1) := by decide +kernel
theorem dX8_isHeeled_31 : decode cX8_isHeeled 31 = .ok (.iconst 1, 1) := by decide +kernel
theorem dX8_isHeeled_32 : decode cX8_isHeeled 32 = .ok (.iadd, 1) := by decide +kernel
theorem dX8_isHeeled_33 : decode cX8_isHeeled 33 = .ok (.iastore, 1) := by decide +kernel
theorem dX8_isHeeled_34 : decode cX8_isHeeled 34 = .ok (.iload_n 3, 1) := by decide +kernel
theorem dX8_isHeeled_35 : decode cX8_isHeeled 35 = .ok (.ireturn, 1) := by decide +kernel
theorem dX8_seen_0 : decode cX8_seen 0 = .ok (.aload_n 0, 1) := by decide +kernel
theorem dX8_seen_1 : decode cX8_seen 1 = .ok (.iload_n 1, 1) := by decide +kernel
theorem dX8_seen_2 : decode cX8_seen 2 = .ok (.invokevirtual 130, 3) := by decide +kernel
theorem dX8_seen_5 : decode cX8_seen 5 = .ok (.ifCond .ne 6, 3) := by decide +kernel
theorem dX8_seen_8 : decode cX8_seen 8 = .ok (.ldc 240, 2) := by decide +kernel
theorem dX8_seen_10 : decode cX8_seen 10 = .ok (.ireturn, 1) := by decide +kernel
theorem dX8_seen_11 : decode cX8_seen 11 = .ok (.iload_n 2, 1) := by decide +kernel
theorem dX8_seen_12 : decode cX8_seen 12 = .ok (.i2l, 1) := by decide +kernel
theorem dX8_seen_13 : decode cX8_seen 13 = .ok (.lconst 0, 1) := by decide +kernel
theorem dX8_seen_14 : decode cX8_seen 14 = .ok (.lconst 1, 1) := by decide +kernel
theorem dX8_seen_15 : decode cX8_seen 15 = .ok (.invokestatic 123, 3) := by decide +kernel
theorem dX8_seen_18 : decode cX8_seen 18 = .ok (.ifCond .ne 6, 3) := by decide +kernel
theorem dX8_seen_21 : decode cX8_seen 21 = .ok (.ldc 136, 2) := by decide +kernel
theorem dX8_seen_23 : decode cX8_seen 23 = .ok (.ireturn, 1) := by decide +kernel
theorem dX8_seen_24 : decode cX8_seen 24 = .ok (.aload_n 0, 1) := by decide +kernel
theorem dX8_seen_25 : decode cX8_seen 25 = .ok (.iload_n 1, 1) := by decide +kernel
theorem dX8_seen_26 : decode cX8_seen 26 = .ok (.invokevirtual 276, 3) := by decide +kernel
theorem dX8_seen_29 : decode cX8_seen 29 = .ok (.ifCond .ge 5, 3) := by decide +kernel
theorem dX8_seen_32 : decode cX8_seen 32 = .ok (.iconst 0, 1) := by decide +kernel
theorem dX8_seen_33 : decode cX8_seen 33 = .ok (.ireturn, 1) := by decide +kernel
theorem dX8_seen_34 : decode cX8_seen 34 = .ok (.iconst 0, 1) := by decide +kernel
theorem dX8_seen_35 : decode cX8_seen 35 = .ok (.istore_n 3, 1) := by decide +kernel
theorem dX8_seen_36 : decode cX8_seen 36 = .ok (.iconst 0, 1) := by decide +kernel
theorem dX8_seen_37 : decode cX8_seen 37 = .ok (.istore 4, 2) := by decide +kernel
theorem dX8_seen_39 : decode cX8_seen 39 = .ok (.iload 4, 2) := by decide +kernel
theorem dX8_seen_41 : decode cX8_seen 41 = .ok (.aload_n 0, 1) := by decide +kernel
theorem dX8_seen_42 : decode cX8_seen 42 = .ok (.getfield 127, 3) := by decide +kernel
theorem dX8_seen_45 : decode cX8_seen 45 = .ok (.if_icmp .ge 70, 3) := by decide +kernel
theorem dX8_seen_48 : decode cX8_seen 48 = .ok (.aload_n 0, 1) := by decide +kernel
theorem dX8_seen_49 : decode cX8_seen 49 = .ok (.getfield 37, 3) := by decide +kernel
theorem dX8_seen_52 : decode cX8_seen 52 = .ok (.iload 4, 2) := by decide +kernel
theorem dX8_seen_54 : decode cX8_seen 54 = .ok (.iaload, 1) := by decide +kernel
theorem dX8_seen_55 : decode cX8_seen 55 = .ok (.iload_n 1, 1) := by decide +kernel
theorem dX8_seen_56 : decode cX8_seen 56 = .ok (.if_icmp .ne 34, 3) := by decide +kernel
theorem dX8_seen_59 : decode cX8_seen 59 = .ok (.iload_n 2, 1) := by decide +kernel
theorem dX8_seen_60 : decode cX8_seen 60 = .ok (.ifCond .ne 16, 3) := by decide +kernel
theorem dX8_seen_63 : decode cX8_seen 63 = .ok (.aload_n 0, 1) := by decide +kernel
theorem dX8_seen_64 : decode cX8_seen 64 = .ok (.iload 4, 2) := by decide +kernel
theorem dX8_seen_66 : decode cX8_seen 66 = .ok (.iload_n 1, 1) := by decide +kernel
theorem dX8_seen_67 : decode cX8_seen 67 = .ok (.invokevirtual 337, 3) := by decide +kernel
theorem dX8_seen_70 : decode cX8_seen 70 = .ok (.ifCond .eq 20, 3) := by decide +kernel
theorem dX8_seen_73 : decode cX8_seen 73 = .ok (.goto 13, 3) := by decide +kernel
theorem dX8_seen_76 : decode cX8_seen 76 = .ok (.aload_n 0, 1) := by decide +kernel
theorem dX8_seen_77 : decode cX8_seen 77 = .ok (.iload 4, 2) := by decide +kernel
theorem dX8_seen_79 : decode cX8_seen 79 = .ok (.iload_n 1, 1) := by decide +kernel
theorem dX8_seen_80 : decode cX8_seen 80 = .ok (.invokevirtual 340, 3) := by decide +kernel
theorem dX8_seen_83 : decode cX8_seen 83 = .ok (.ifCond .eq 7, 3) := by decide +kernel
theorem dX8_seen_86 : decode cX8_seen 86 = .ok (.iconst 1, 1) := by decide +kernel
theorem dX8_seen_87 : decode cX8_seen 87 = .ok (.goto 4, 3) := by decide +kernel
theorem dX8_seen_90 : decode cX8_seen 90 = .ok (.iconst 0, 1) := by decide +kernel
theorem dX8_seen_91 : decode cX8_seen 91 = .ok (.istore 5, 2) := by decide +kernel
theorem dX8_seen_93 : decode cX8_seen 93 = .ok (.iload_n 3, 1) := by decide +kernel
theorem dX8_seen_94 : decode cX8_seen 94 = .ok (.iload 5, 2) := by decide +kernel
theorem dX8_seen_96 : decode cX8_seen 96 = .ok (.ifCond .eq 10, 3) := by decide +kernel
theorem dX8_seen_99 : decode cX8_seen 99 = .ok (.iconst 1, 1) := by decide +kernel
theorem dX8_seen_100 : decode cX8_seen 100 = .ok (.iload 4, 2) := by decide +kernel
theorem dX8_seen_102 : decode cX8_seen 102 = .ok (.ishl, 1) := by decide +kernel
theorem dX8_seen_103 : decode cX8_seen 103 = .ok (.goto 4, 3) := by decide +kernel
theorem dX8_seen_106 : decode cX8_seen 106 = .ok (.iconst 0, 1) := by decide +kernel
theorem dX8_seen_107 : decode cX8_seen 107 = .ok (.ior, 1) := by decide +kernel
theorem dX8_seen_108 : decode cX8_seen 108 = .ok (.istore_n 3, 1) := by decide +kernel
theorem dX8_seen_109 : decode cX8_seen 109 = .ok (.iinc 4 1, 3) := by decide +kernel
theorem dX8_seen_112 : decode cX8_seen 112 = .ok (.goto (-73), 3) := by decide +kernel
theorem dX8_seen_115 : decode cX8_seen 115 = .ok (.iload_n 3, 1) := by decide +kernel
theorem dX8_seen_116 : decode cX8_seen 116 = .ok (.ireturn, 1) := by decide +kernel
theorem dX8_write_0 : decode cX8_write 0 = .ok (.aload_n 0, 1) := by decide +kernel
theorem dX8_write_1 : decode cX8_write 1 = .ok (.iload_n 1, 1) := by decide +kernel
theorem dX8_write_2 : decode cX8_write 2 = .ok (.invokevirtual 248, 3) := by decide +kernel
theorem dX8_write_5 : decode cX8_write 5 = .ok (.ifCond .eq 12, 3) := by decide +kernel
theorem dX8_write_8 : decode cX8_write 8 = .ok (.aload_n 0, 1) := by decide +kernel
theorem dX8_write_9 : decode cX8_write 9 = .ok (.iload_n 2, 1) := by decide +kernel
theorem dX8_write_10 : decode cX8_write 10 = .ok (.iload_n 3, 1) := by decide +kernel
theorem dX8_write_11 : decode cX8_write 11 = .ok (.invokevirtual 236, 3) := by decide +kernel
theorem dX8_write_14 : decode cX8_write 14 = .ok (.ifCond .ne 6, 3) := by decide +kernel
theorem dX8_write_17 : decode cX8_write 17 = .ok (.ldc 240, 2) := by decide +kernel
theorem dX8_write_19 : decode cX8_write 19 = .ok (.ireturn, 1) := by decide +kernel
theorem dX8_write_20 : decode cX8_write 20 = .ok (.aload_n 0, 1) := by decide +kernel
theorem dX8_write_21 : decode cX8_write 21 = .ok (.getfield 227, 3) := by decide +kernel
theorem dX8_write_24 : decode cX8_write 24 = .ok (.bipush 20, 2) := by decide +kernel
theorem dX8_write_26 : decode cX8_write 26 = .ok (.if_icmp .ne 6, 3) := by decide +kernel
theorem dX8_write_29 : decode cX8_write 29 = .ok (.ldc 140, 2) := by decide +kernel
theorem dX8_write_31 : decode cX8_write 31 = .ok (.ireturn, 1) := by decide +kernel
theorem dX8_write_32 : decode cX8_write 32 = .ok (.aload_n 0, 1) := by decide +kernel
theorem dX8_write_33 : decode cX8_write 33 = .ok (.getfield 101, 3) := by decide +kernel
theorem dX8_write_36 : decode cX8_write 36 = .ok (.aload_n 0, 1) := by decide +kernel
theorem dX8_write_37 : decode cX8_write 37 = .ok (.getfield 227, 3) := by decide +kernel
theorem dX8_write_40 : decode cX8_write 40 = .ok (.iload_n 1, 1) := by decide +kernel
theorem dX8_write_41 : decode cX8_write 41 = .ok (.iastore, 1) := by decide +kernel
theorem dX8_write_42 : decode cX8_write 42 = .ok (.aload_n 0, 1) := by decide +kernel
theorem dX8_write_43 : decode cX8_write 43 = .ok (.getfield 104, 3) := by decide +kernel
theorem dX8_write_46 : decode cX8_write 46 = .ok (.aload_n 0, 1) := by decide +kernel
theorem dX8_write_47 : decode cX8_write 47 = .ok (.getfield 227, 3) := by decide +kernel
theorem dX8_write_50 : decode cX8_write 50 = .ok (.iload_n 2, 1) := by decide +kernel
theorem dX8_write_51 : decode cX8_write 51 = .ok (.iastore, 1) := by decide +kernel
theorem dX8_write_52 : decode cX8_write 52 = .ok (.aload_n 0, 1) := by decide +kernel
theorem dX8_write_53 : decode cX8_write 53 = .ok (.getfield 107, 3) := by decide +kernel
theorem dX8_write_56 : decode cX8_write 56 = .ok (.aload_n 0, 1) := by decide +kernel
theorem dX8_write_57 : decode cX8_write 57 = .ok (.getfield 227, 3) := by decide +kernel
theorem dX8_write_60 : decode cX8_write 60 = .ok (.iload_n 3, 1) := by decide +kernel
theorem dX8_write_61 : decode cX8_write 61 = .ok (.iastore, 1) := by decide +kernel
theorem dX8_write_62 : decode cX8_write 62 = .ok (.aload_n 0, 1) := by decide +kernel
theorem dX8_write_63 : decode cX8_write 63 = .ok (.dup, 1) := by decide +kernel
theorem dX8_write_64 : decode cX8_write 64 = .ok (.getfield 227, 3) := by decide +kernel
theorem dX8_write_67 : decode cX8_write 67 = .ok (.iconst 1, 1) := by decide +kernel
theorem dX8_write_68 : decode cX8_write 68 = .ok (.iadd, 1) := by decide +kernel
theorem dX8_write_69 : decode cX8_write 69 = .ok (.putfield 227, 3) := by decide +kernel
theorem dX8_write_72 : decode cX8_write 72 = .ok (.aload_n 0, 1) := by decide +kernel
theorem dX8_write_73 : decode cX8_write 73 = .ok (.getfield 227, 3) := by decide +kernel
theorem dX8_write_76 : decode cX8_write 76 = .ok (.ireturn, 1) := by decide +kernel
theorem dX8_tear_0 : decode cX8_tear 0 = .ok (.aload_n 0, 1) := by decide +kernel
theorem dX8_tear_1 : decode cX8_tear 1 = .ok (.getfield 227, 3) := by decide +kernel
theorem dX8_tear_4 : decode cX8_tear 4 = .ok (.istore_n 1, 1) := by decide +kernel
theorem dX8_tear_5 : decode cX8_tear 5 = .ok (.aload_n 0, 1) := by decide +kernel
theorem dX8_tear_6 : decode cX8_tear 6 = .ok (.iconst 0, 1) := by decide +kernel
theorem dX8_tear_7 : decode cX8_tear 7 = .ok (.putfield 227, 3) := by decide +kernel
theorem dX8_tear_10 : decode cX8_tear 10 = .ok (.iload_n 1, 1) := by decide +kernel
theorem dX8_tear_11 : decode cX8_tear 11 = .ok (.ireturn, 1) := by decide +kernel
theorem dX8_judge_0 : decode cX8_judge 0 = .ok (.iload_n 1, 1) := by decide +kernel
theorem dX8_judge_1 : decode cX8_judge 1 = .ok (.i2l, 1) := by decide +kernel
theorem dX8_judge_2 : decode cX8_judge 2 = .ok (.lconst 0, 1) := by decide +kernel
theorem dX8_judge_3 : decode cX8_judge 3 = .ok (.lconst 1, 1) := by decide +kernel
theorem dX8_judge_4 : decode cX8_judge 4 = .ok (.invokestatic 123, 3) := by decide +kernel
theorem dX8_judge_7 : decode cX8_judge 7 = .ok (.ifCond .ne 6, 3) := by decide +kernel
theorem dX8_judge_10 : decode cX8_judge 10 = .ok (.ldc 136, 2) := by decide +kernel
theorem dX8_judge_12 : decode cX8_judge 12 = .ok (.ireturn, 1) := by decide +kernel
theorem dX8_judge_13 : decode cX8_judge 13 = .ok (.aload_n 0, 1) := by decide +kernel
theorem dX8_judge_14 : decode cX8_judge 14 = .ok (.iconst 2, 1) := by decide +kernel
theorem dX8_judge_15 : decode cX8_judge 15 = .ok (.invokevirtual 343, 3) := by decide +kernel
theorem dX8_judge_18 : decode cX8_judge 18 = .ok (.iconst 0, 1) := by decide +kernel
theorem dX8_judge_19 : decode cX8_judge 19 = .ok (.istore_n 2, 1) := by decide +kernel
theorem dX8_judge_20 : decode cX8_judge 20 = .ok (.iload_n 2, 1) := by decide +kernel
theorem dX8_judge_21 : decode cX8_judge 21 = .ok (.bipush 6, 2) := by decide +kernel
theorem dX8_judge_23 : decode cX8_judge 23 = .ok (.if_icmp .ge 14, 3) := by decide +kernel
theorem dX8_judge_26 : decode cX8_judge 26 = .ok (.aload_n 0, 1) := by decide +kernel
theorem dX8_judge_27 : decode cX8_judge 27 = .ok (.iload_n 2, 1) := by decide +kernel
theorem dX8_judge_28 : decode cX8_judge 28 = .ok (.invokevirtual 263, 3) := by decide +kernel
theorem dX8_judge_31 : decode cX8_judge 31 = .ok (.iinc 2 1, 3) := by decide +kernel
theorem dX8_judge_34 : decode cX8_judge 34 = .ok (.goto (-14), 3) := by decide +kernel
theorem dX8_judge_37 : decode cX8_judge 37 = .ok (.iconst (-1), 1) := by decide +kernel
theorem dX8_judge_38 : decode cX8_judge 38 = .ok (.istore_n 2, 1) := by decide +kernel
theorem dX8_judge_39 : decode cX8_judge 39 = .ok (.iconst 0, 1) := by decide +kernel
theorem dX8_judge_40 : decode cX8_judge 40 = .ok (.istore_n 3, 1) := by decide +kernel
theorem dX8_judge_41 : decode cX8_judge 41 = .ok (.iconst 0, 1) := by decide +kernel
theorem dX8_judge_42 : decode cX8_judge 42 = .ok (.istore 4, 2) := by decide +kernel
theorem dX8_judge_44 : decode cX8_judge 44 = .ok (.iload 4, 2) := by decide +kernel
theorem dX8_judge_46 : decode cX8_judge 46 = .ok (.aload_n 0, 1) := by decide +kernel
theorem dX8_judge_47 : decode cX8_judge 47 = .ok (.getfield 227, 3) := by decide +kernel
theorem dX8_judge_50 : decode cX8_judge 50 = .ok (.if_icmp .ge 75, 3) := by decide +kernel
theorem dX8_judge_53 : decode cX8_judge 53 = .ok (.iload_n 2, 1) := by decide +kernel
theorem dX8_judge_54 : decode cX8_judge 54 = .ok (.ifCond .ge 71, 3) := by decide +kernel
theorem dX8_judge_57 : decode cX8_judge 57 = .ok (.aload_n 0, 1) := by decide +kernel
theorem dX8_judge_58 : decode cX8_judge 58 = .ok (.aload_n 0, 1) := by decide +kernel
theorem dX8_judge_59 : decode cX8_judge 59 = .ok (.getfield 101, 3) := by decide +kernel
theorem dX8_judge_62 : decode cX8_judge 62 = .ok (.iload 4, 2) := by decide +kernel
theorem dX8_judge_64 : decode cX8_judge 64 = .ok (.iaload, 1) := by decide +kernel
theorem dX8_judge_65 : decode cX8_judge 65 = .ok (.aload_n 0, 1) := by decide +kernel
theorem dX8_judge_66 : decode cX8_judge 66 = .ok (.getfield 104, 3) := by decide +kernel
theorem dX8_judge_69 : decode cX8_judge 69 = .ok (.iload 4, 2) := by decide +kernel
theorem dX8_judge_71 : decode cX8_judge 71 = .ok (.iaload, 1) := by decide +kernel
theorem dX8_judge_72 : decode cX8_judge 72 = .ok (.aload_n 0, 1) := by decide +kernel
theorem dX8_judge_73 : decode cX8_judge 73 = .ok (.getfield 107, 3) := by decide +kernel
theorem dX8_judge_76 : decode cX8_judge 76 = .ok (.iload 4, 2) := by decide +kernel
theorem dX8_judge_78 : decode cX8_judge 78 = .ok (.iaload, 1) := by decide +kernel
theorem dX8_judge_79 : decode cX8_judge 79 = .ok (.invokevirtual 255, 3) := by decide +kernel
theorem dX8_judge_82 : decode cX8_judge 82 = .ok (.ifCond .eq 34, 3) := by decide +kernel
theorem dX8_judge_85 : decode cX8_judge 85 = .ok (.iload_n 3, 1) := by decide +kernel
theorem dX8_judge_86 : decode cX8_judge 86 = .ok (.aload_n 0, 1) := by decide +kernel
theorem dX8_judge_87 : decode cX8_judge 87 = .ok (.aload_n 0, 1) := by decide +kernel
theorem dX8_judge_88 : decode cX8_judge 88 = .ok (.getfield 101, 3) := by decide +kernel
theorem dX8_judge_91 : decode cX8_judge 91 = .ok (.iload 4, 2) := by decide +kernel
theorem dX8_judge_93 : decode cX8_judge 93 = .ok (.iaload, 1) := by decide +kernel
theorem dX8_judge_94 : decode cX8_judge 94 = .ok (.aload_n 0, 1) := by decide +kernel
theorem dX8_judge_95 : decode cX8_judge 95 = .ok (.getfield 104, 3) := by decide +kernel
theorem dX8_judge_98 : decode cX8_judge 98 = .ok (.iload 4, 2) := by decide +kernel
theorem dX8_judge_100 : decode cX8_judge 100 = .ok (.iaload, 1) := by decide +kernel
theorem dX8_judge_101 : decode cX8_judge 101 = .ok (.aload_n 0, 1) := by decide +kernel
theorem dX8_judge_102 : decode cX8_judge 102 = .ok (.getfield 107, 3) := by decide +kernel
theorem dX8_judge_105 : decode cX8_judge 105 = .ok (.iload 4, 2) := by decide +kernel
theorem dX8_judge_107 : decode cX8_judge 107 = .ok (.iaload, 1) := by decide +kernel
theorem dX8_judge_108 : decode cX8_judge 108 = .ok (.invokevirtual 300, 3) := by decide +kernel
theorem dX8_judge_111 : decode cX8_judge 111 = .ok (.iadd, 1) := by decide +kernel
theorem dX8_judge_112 : decode cX8_judge 112 = .ok (.istore_n 3, 1) := by decide +kernel
theorem dX8_judge_113 : decode cX8_judge 113 = .ok (.goto 6, 3) := by decide +kernel
theorem dX8_judge_116 : decode cX8_judge 116 = .ok (.iload 4, 2) := by decide +kernel
theorem dX8_judge_118 : decode cX8_judge 118 = .ok (.istore_n 2, 1) := by decide +kernel
theorem dX8_judge_119 : decode cX8_judge 119 = .ok (.iinc 4 1, 3) := by decide +kernel
theorem dX8_judge_122 : decode cX8_judge 122 = .ok (.goto (-78), 3) := by decide +kernel
theorem dX8_judge_125 : decode cX8_judge 125 = .ok (.aload_n 0, 1) := by decide +kernel
theorem dX8_judge_126 : decode cX8_judge 126 = .ok (.iconst 2, 1) := by decide +kernel
theorem dX8_judge_127 : decode cX8_judge 127 = .ok (.invokevirtual 346, 3) := by decide +kernel
theorem dX8_judge_130 : decode cX8_judge 130 = .ok (.iload_n 1, 1) := by decide +kernel
theorem dX8_judge_131 : decode cX8_judge 131 = .ok (.ifCond .ne 7, 3) := by decide +kernel
theorem dX8_judge_134 : decode cX8_judge 134 = .ok (.iload_n 2, 1) := by decide +kernel
theorem dX8_judge_135 : decode cX8_judge 135 = .ok (.goto 4, 3) := by decide +kernel
theorem dX8_judge_138 : decode cX8_judge 138 = .ok (.iload_n 3, 1) := by decide +kernel
theorem dX8_judge_139 : decode cX8_judge 139 = .ok (.ireturn, 1) := by decide +kernel
theorem dX8_draw_0 : decode cX8_draw 0 = .ok (.aload_n 0, 1) := by decide +kernel
theorem dX8_draw_1 : decode cX8_draw 1 = .ok (.aload_n 0, 1) := by decide +kernel
theorem dX8_draw_2 : decode cX8_draw 2 = .ok (.getfield 349, 3) := by decide +kernel
theorem dX8_draw_5 : decode cX8_draw 5 = .ok (.i2l, 1) := by decide +kernel
theorem dX8_draw_6 : decode cX8_draw 6 = .ok (.ldc2_w 352, 3) := by decide +kernel
theorem dX8_draw_9 : decode cX8_draw 9 = .ok (.lmul, 1) := by decide +kernel
theorem dX8_draw_10 : decode cX8_draw 10 = .ok (.ldc2_w 354, 3) := by decide +kernel
theorem dX8_draw_13 : decode cX8_draw 13 = .ok (.ladd, 1) := by decide +kernel
theorem dX8_draw_14 : decode cX8_draw 14 = .ok (.ldc2_w 356, 3) := by decide +kernel
theorem dX8_draw_17 : decode cX8_draw 17 = .ok (.lrem, 1) := by decide +kernel
theorem dX8_draw_18 : decode cX8_draw 18 = .ok (.l2i, 1) := by decide +kernel
theorem dX8_draw_19 : decode cX8_draw 19 = .ok (.putfield 349, 3) := by decide +kernel
theorem dX8_draw_22 : decode cX8_draw 22 = .ok (.aload_n 0, 1) := by decide +kernel
theorem dX8_draw_23 : decode cX8_draw 23 = .ok (.getfield 349, 3) := by decide +kernel
theorem dX8_draw_26 : decode cX8_draw 26 = .ok (.ldc_w 358, 3) := by decide +kernel
theorem dX8_draw_29 : decode cX8_draw 29 = .ok (.idiv, 1) := by decide +kernel
theorem dX8_draw_30 : decode cX8_draw 30 = .ok (.iload_n 1, 1) := by decide +kernel
theorem dX8_draw_31 : decode cX8_draw 31 = .ok (.irem, 1) := by decide +kernel
theorem dX8_draw_32 : decode cX8_draw 32 = .ok (.ireturn, 1) := by decide +kernel
theorem dX8_drift_0 : decode cX8_drift 0 = .ok (.iload_n 1, 1) := by decide +kernel
theorem dX8_drift_1 : decode cX8_drift 1 = .ok (.i2l, 1) := by decide +kernel
theorem dX8_drift_2 : decode cX8_drift 2 = .ok (.lconst 1, 1) := by decide +kernel
theorem dX8_drift_3 : decode cX8_drift 3 = .ok (.ldc2_w 359, 3) := by decide +kernel
theorem dX8_drift_6 : decode cX8_drift 6 = .ok (.invokestatic 123, 3) := by decide +kernel
theorem dX8_drift_9 : decode cX8_drift 9 = .ok (.ifCond .ne 6, 3) := by decide +kernel
theorem dX8_drift_12 : decode cX8_drift 12 = .ok (.ldc 136, 2) := by decide +kernel
theorem dX8_drift_14 : decode cX8_drift 14 = .ok (.ireturn, 1) := by decide +kernel
theorem dX8_drift_15 : decode cX8_drift 15 = .ok (.aload_n 0, 1) := by decide +kernel
theorem dX8_drift_16 : decode cX8_drift 16 = .ok (.getfield 120, 3) := by decide +kernel
theorem dX8_drift_19 : decode cX8_drift 19 = .ok (.ifCond .eq 10, 3) := by decide +kernel
theorem dX8_drift_22 : decode cX8_drift 22 = .ok (.aload_n 0, 1) := by decide +kernel
theorem dX8_drift_23 : decode cX8_drift 23 = .ok (.getfield 127, 3) := by decide +kernel
theorem dX8_drift_26 : decode cX8_drift 26 = .ok (.ifCond .ne 7, 3) := by decide +kernel
theorem dX8_drift_29 : decode cX8_drift 29 = .ok (.ldc_w 259, 3) := by decide +kernel
theorem dX8_drift_32 : decode cX8_drift 32 = .ok (.ireturn, 1) := by decide +kernel
theorem dX8_drift_33 : decode cX8_drift 33 = .ok (.iconst 0, 1) := by decide +kernel
theorem dX8_drift_34 : decode cX8_drift 34 = .ok (.istore_n 2, 1) := by decide +kernel
theorem dX8_drift_35 : decode cX8_drift 35 = .ok (.iconst 0, 1) := by decide +kernel
theorem dX8_drift_36 : decode cX8_drift 36 = .ok (.istore_n 3, 1) := by decide +kernel
theorem dX8_drift_37 : decode cX8_drift 37 = .ok (.iload_n 3, 1) := by decide +kernel
theorem dX8_drift_38 : decode cX8_drift 38 = .ok (.iload_n 1, 1) := by decide +kernel
theorem dX8_drift_39 : decode cX8_drift 39 = .ok (.if_icmp .ge 108, 3) := by decide +kernel
theorem dX8_drift_42 : decode cX8_drift 42 = .ok (.aload_n 0, 1) := by decide +kernel
theorem dX8_drift_43 : decode cX8_drift 43 = .ok (.aload_n 0, 1) := by decide +kernel
theorem dX8_drift_44 : decode cX8_drift 44 = .ok (.getfield 127, 3) := by decide +kernel
theorem dX8_drift_47 : decode cX8_drift 47 = .ok (.invokevirtual 361, 3) := by decide +kernel
theorem dX8_drift_50 : decode cX8_drift 50 = .ok (.istore 4, 2) := by decide +kernel
theorem dX8_drift_52 : decode cX8_drift 52 = .ok (.aload_n 0, 1) := by decide +kernel
theorem dX8_drift_53 : decode cX8_drift 53 = .ok (.getfield 37, 3) := by decide +kernel
theorem dX8_drift_56 : decode cX8_drift 56 = .ok (.iload 4, 2) := by decide +kernel
theorem dX8_drift_58 : decode cX8_drift 58 = .ok (.iaload, 1) := by decide +kernel
theorem dX8_drift_59 : decode cX8_drift 59 = .ok (.ifCond .lt 29, 3) := by decide +kernel
theorem dX8_drift_62 : decode cX8_drift 62 = .ok (.aload_n 0, 1) := by decide +kernel
theorem dX8_drift_63 : decode cX8_drift 63 = .ok (.getfield 37, 3) := by decide +kernel
theorem dX8_drift_66 : decode cX8_drift 66 = .ok (.iload 4, 2) := by decide +kernel
theorem dX8_drift_68 : decode cX8_drift 68 = .ok (.iaload, 1) := by decide +kernel
theorem dX8_drift_69 : decode cX8_drift 69 = .ok (.istore 5, 2) := by decide +kernel
theorem dX8_drift_71 : decode cX8_drift 71 = .ok (.aload_n 0, 1) := by decide +kernel
theorem dX8_drift_72 : decode cX8_drift 72 = .ok (.iload 4, 2) := by decide +kernel
theorem dX8_drift_74 : decode cX8_drift 74 = .ok (.invokevirtual 263, 3) := by decide +kernel
theorem dX8_drift_77 : decode cX8_drift 77 = .ok (.aload_n 0, 1) := by decide +kernel
theorem dX8_drift_78 : decode cX8_drift 78 = .ok (.iload 5, 2) := by decide +kernel
theorem dX8_drift_80 : decode cX8_drift 80 = .ok (.invokevirtual 286, 3) := by decide +kernel
theorem dX8_drift_83 : decode cX8_drift 83 = .ok (.istore 6, 2) := by decide +kernel
theorem dX8_drift_85 : decode cX8_drift 85 = .ok (.goto 56, 3) := by decide +kernel
theorem dX8_drift_88 : decode cX8_drift 88 = .ok (.aload_n 0, 1) := by decide +kernel
theorem dX8_drift_89 : decode cX8_drift 89 = .ok (.aload_n 0, 1) := by decide +kernel
theorem dX8_drift_90 : decode cX8_drift 90 = .ok (.getfield 120, 3) := by decide +kernel
theorem dX8_drift_93 : decode cX8_drift 93 = .ok (.invokevirtual 361, 3) := by decide +kernel
theorem dX8_drift_96 : decode cX8_drift 96 = .ok (.istore 5, 2) := by decide +kernel
theorem dX8_drift_98 : decode cX8_drift 98 = .ok (.aload_n 0, 1) := by decide +kernel
theorem dX8_drift_99 : decode cX8_drift 99 = .ok (.aload_n 0, 1) := by decide +kernel
theorem dX8_drift_100 : decode cX8_drift 100 = .ok (.getfield 7, 3) := by decide +kernel
theorem dX8_drift_103 : decode cX8_drift 103 = .ok (.iload 5, 2) := by decide +kernel
theorem dX8_drift_105 : decode cX8_drift 105 = .ok (.iaload, 1) := by decide +kernel
theorem dX8_drift_106 : decode cX8_drift 106 = .ok (.invokevirtual 361, 3) := by decide +kernel
theorem dX8_drift_109 : decode cX8_drift 109 = .ok (.istore 6, 2) := by decide +kernel
theorem dX8_drift_111 : decode cX8_drift 111 = .ok (.iload_n 2, 1) := by decide +kernel
theorem dX8_drift_112 : decode cX8_drift 112 = .ok (.aload_n 0, 1) := by decide +kernel
theorem dX8_drift_113 : decode cX8_drift 113 = .ok (.iload 4, 2) := by decide +kernel
theorem dX8_drift_115 : decode cX8_drift 115 = .ok (.iload 5, 2) := by decide +kernel
theorem dX8_drift_117 : decode cX8_drift 117 = .ok (.iload 6, 2) := by decide +kernel
theorem dX8_drift_119 : decode cX8_drift 119 = .ok (.invokevirtual 255, 3) := by decide +kernel
theorem dX8_drift_122 : decode cX8_drift 122 = .ok (.ifCond .eq 16, 3) := by decide +kernel
theorem dX8_drift_125 : decode cX8_drift 125 = .ok (.aload_n 0, 1) := by decide +kernel
theorem dX8_drift_126 : decode cX8_drift 126 = .ok (.iload 4, 2) := by decide +kernel
theorem dX8_drift_128 : decode cX8_drift 128 = .ok (.iload 5, 2) := by decide +kernel
theorem dX8_drift_130 : decode cX8_drift 130 = .ok (.iload 6, 2) := by decide +kernel
theorem dX8_drift_132 : decode cX8_drift 132 = .ok (.invokevirtual 300, 3) := by decide +kernel
theorem dX8_drift_135 : decode cX8_drift 135 = .ok (.goto 4, 3) := by decide +kernel
theorem dX8_drift_138 : decode cX8_drift 138 = .ok (.iconst 0, 1) := by decide +kernel
theorem dX8_drift_139 : decode cX8_drift 139 = .ok (.iadd, 1) := by decide +kernel
theorem dX8_drift_140 : decode cX8_drift 140 = .ok (.istore_n 2, 1) := by decide +kernel
theorem dX8_drift_141 : decode cX8_drift 141 = .ok (.iinc 3 1, 3) := by decide +kernel
theorem dX8_drift_144 : decode cX8_drift 144 = .ok (.goto (-107), 3) := by decide +kernel
theorem dX8_drift_147 : decode cX8_drift 147 = .ok (.iload_n 2, 1) := by decide +kernel
theorem dX8_drift_148 : decode cX8_drift 148 = .ok (.ireturn, 1) := by decide +kernel
theorem dX8_empty_0 : decode cX8_empty 0 = .ok (.aload_n 0, 1) := by decide +kernel
theorem dX8_empty_1 : decode cX8_empty 1 = .ok (.invokevirtual 233, 3) := by decide +kernel
theorem dX8_empty_4 : decode cX8_empty 4 = .ok (.invokestatic 303, 3) := by decide +kernel
theorem dX8_empty_7 : decode cX8_empty 7 = .ok (.istore_n 1, 1) := by decide +kernel
theorem dX8_empty_8 : decode cX8_empty 8 = .ok (.iconst 0, 1) := by decide +kernel
theorem dX8_empty_9 : decode cX8_empty 9 = .ok (.istore_n 2, 1) := by decide +kernel
theorem dX8_empty_10 : decode cX8_empty 10 = .ok (.iload_n 2, 1) := by decide +kernel
theorem dX8_empty_11 : decode cX8_empty 11 = .ok (.bipush 6, 2) := by decide +kernel
theorem dX8_empty_13 : decode cX8_empty 13 = .ok (.if_icmp .ge 14, 3) := by decide +kernel
theorem dX8_empty_16 : decode cX8_empty 16 = .ok (.aload_n 0, 1) := by decide +kernel
theorem dX8_empty_17 : decode cX8_empty 17 = .ok (.iload_n 2, 1) := by decide +kernel
theorem dX8_empty_18 : decode cX8_empty 18 = .ok (.invokevirtual 263, 3) := by decide +kernel
theorem dX8_empty_21 : decode cX8_empty 21 = .ok (.iinc 2 1, 3) := by decide +kernel
theorem dX8_empty_24 : decode cX8_empty 24 = .ok (.goto (-14), 3) := by decide +kernel
theorem dX8_empty_27 : decode cX8_empty 27 = .ok (.iload_n 1, 1) := by decide +kernel
theorem dX8_empty_28 : decode cX8_empty 28 = .ok (.ireturn, 1) := by decide +kernel
theorem dX8_seed_0 : decode cX8_seed 0 = .ok (.iload_n 1, 1) := by decide +kernel
theorem dX8_seed_1 : decode cX8_seed 1 = .ok (.ifCond .ge 6, 3) := by decide +kernel
theorem dX8_seed_4 : decode cX8_seed 4 = .ok (.ldc 136, 2) := by decide +kernel
theorem dX8_seed_6 : decode cX8_seed 6 = .ok (.ireturn, 1) := by decide +kernel
theorem dX8_seed_7 : decode cX8_seed 7 = .ok (.aload_n 0, 1) := by decide +kernel
theorem dX8_seed_8 : decode cX8_seed 8 = .ok (.getfield 349, 3) := by decide +kernel
theorem dX8_seed_11 : decode cX8_seed 11 = .ok (.istore_n 2, 1) := by decide +kernel
theorem dX8_seed_12 : decode cX8_seed 12 = .ok (.aload_n 0, 1) := by decide +kernel
theorem dX8_seed_13 : decode cX8_seed 13 = .ok (.iload_n 1, 1) := by decide +kernel
theorem dX8_seed_14 : decode cX8_seed 14 = .ok (.putfield 349, 3) := by decide +kernel
theorem dX8_seed_17 : decode cX8_seed 17 = .ok (.iload_n 2, 1) := by decide +kernel
theorem dX8_seed_18 : decode cX8_seed 18 = .ok (.ireturn, 1) := by decide +kernel
theorem dX8_save_0 : decode cX8_save 0 = .ok (.bipush 40, 2) := by decide +kernel
theorem dX8_save_2 : decode cX8_save 2 = .ok (.iload_n 1, 1) := by decide +kernel
theorem dX8_save_3 : decode cX8_save 3 = .ok (.imul, 1) := by decide +kernel
theorem dX8_save_4 : decode cX8_save 4 = .ok (.istore_n 2, 1) := by decide +kernel
theorem dX8_save_5 : decode cX8_save 5 = .ok (.iconst 0, 1) := by decide +kernel
theorem dX8_save_6 : decode cX8_save 6 = .ok (.istore_n 3, 1) := by decide +kernel
theorem dX8_save_7 : decode cX8_save 7 = .ok (.iload_n 3, 1) := by decide +kernel
theorem dX8_save_8 : decode cX8_save 8 = .ok (.bipush 6, 2) := by decide +kernel
theorem dX8_save_10 : decode cX8_save 10 = .ok (.if_icmp .ge 91, 3) := by decide +kernel
theorem dX8_save_13 : decode cX8_save 13 = .ok (.aload_n 0, 1) := by decide +kernel
theorem dX8_save_14 : decode cX8_save 14 = .ok (.getfield 110, 3) := by decide +kernel
theorem dX8_save_17 : decode cX8_save 17 = .ok (.iload_n 2, 1) := by decide +kernel
theorem dX8_save_18 : decode cX8_save 18 = .ok (.iload_n 3, 1) := by decide +kernel
theorem dX8_save_19 : decode cX8_save 19 = .ok (.iadd, 1) := by decide +kernel
theorem dX8_save_20 : decode cX8_save 20 = .ok (.aload_n 0, 1) := by decide +kernel
theorem dX8_save_21 : decode cX8_save 21 = .ok (.getfield 37, 3) := by decide +kernel
theorem dX8_save_24 : decode cX8_save 24 = .ok (.iload_n 3, 1) := by decide +kernel
theorem dX8_save_25 : decode cX8_save 25 = .ok (.iaload, 1) := by decide +kernel
theorem dX8_save_26 : decode cX8_save 26 = .ok (.iastore, 1) := by decide +kernel
theorem dX8_save_27 : decode cX8_save 27 = .ok (.aload_n 0, 1) := by decide +kernel
theorem dX8_save_28 : decode cX8_save 28 = .ok (.getfield 110, 3) := by decide +kernel
theorem dX8_save_31 : decode cX8_save 31 = .ok (.iload_n 2, 1) := by decide +kernel
theorem dX8_save_32 : decode cX8_save 32 = .ok (.bipush 6, 2) := by decide +kernel
theorem dX8_save_34 : decode cX8_save 34 = .ok (.iadd, 1) := by decide +kernel
theorem dX8_save_35 : decode cX8_save 35 = .ok (.iload_n 3, 1) := by decide +kernel
theorem dX8_save_36 : decode cX8_save 36 = .ok (.iadd, 1) := by decide +kernel
theorem dX8_save_37 : decode cX8_save 37 = .ok (.aload_n 0, 1) := by decide +kernel
theorem dX8_save_38 : decode cX8_save 38 = .ok (.getfield 40, 3) := by decide +kernel
theorem dX8_save_41 : decode cX8_save 41 = .ok (.iload_n 3, 1) := by decide +kernel
theorem dX8_save_42 : decode cX8_save 42 = .ok (.iaload, 1) := by decide +kernel
theorem dX8_save_43 : decode cX8_save 43 = .ok (.iastore, 1) := by decide +kernel
theorem dX8_save_44 : decode cX8_save 44 = .ok (.aload_n 0, 1) := by decide +kernel
theorem dX8_save_45 : decode cX8_save 45 = .ok (.getfield 110, 3) := by decide +kernel
theorem dX8_save_48 : decode cX8_save 48 = .ok (.iload_n 2, 1) := by decide +kernel
theorem dX8_save_49 : decode cX8_save 49 = .ok (.bipush 12, 2) := by decide +kernel
theorem dX8_save_51 : decode cX8_save 51 = .ok (.iadd, 1) := by decide +kernel
theorem dX8_save_52 : decode cX8_save 52 = .ok (.iload_n 3, 1) := by decide +kernel
theorem dX8_save_53 : decode cX8_save 53 = .ok (.iadd, 1) := by decide +kernel
theorem dX8_save_54 : decode cX8_save 54 = .ok (.aload_n 0, 1) := by decide +kernel
theorem dX8_save_55 : decode cX8_save 55 = .ok (.getfield 43, 3) := by decide +kernel
theorem dX8_save_58 : decode cX8_save 58 = .ok (.iload_n 3, 1) := by decide +kernel
theorem dX8_save_59 : decode cX8_save 59 = .ok (.iaload, 1) := by decide +kernel
theorem dX8_save_60 : decode cX8_save 60 = .ok (.iastore, 1) := by decide +kernel
theorem dX8_save_61 : decode cX8_save 61 = .ok (.aload_n 0, 1) := by decide +kernel
theorem dX8_save_62 : decode cX8_save 62 = .ok (.getfield 110, 3) := by decide +kernel
theorem dX8_save_65 : decode cX8_save 65 = .ok (.iload_n 2, 1) := by decide +kernel
theorem dX8_save_66 : decode cX8_save 66 = .ok (.bipush 18, 2) := by decide +kernel
theorem dX8_save_68 : decode cX8_save 68 = .ok (.iadd, 1) := by decide +kernel
theorem dX8_save_69 : decode cX8_save 69 = .ok (.iload_n 3, 1) := by decide +kernel
theorem dX8_save_70 : decode cX8_save 70 = .ok (.iadd, 1) := by decide +kernel
theorem dX8_save_71 : decode cX8_save 71 = .ok (.aload_n 0, 1) := by decide +kernel
theorem dX8_save_72 : decode cX8_save 72 = .ok (.getfield 31, 3) := by decide +kernel
theorem dX8_save_75 : decode cX8_save 75 = .ok (.iload_n 3, 1) := by decide +kernel
theorem dX8_save_76 : decode cX8_save 76 = .ok (.iaload, 1) := by decide +kernel
theorem dX8_save_77 : decode cX8_save 77 = .ok (.iastore, 1) := by decide +kernel
theorem dX8_save_78 : decode cX8_save 78 = .ok (.aload_n 0, 1) := by decide +kernel
theorem dX8_save_79 : decode cX8_save 79 = .ok (.getfield 110, 3) := by decide +kernel
theorem dX8_save_82 : decode cX8_save 82 = .ok (.iload_n 2, 1) := by decide +kernel
theorem dX8_save_83 : decode cX8_save 83 = .ok (.bipush 24, 2) := by decide +kernel
theorem dX8_save_85 : decode cX8_save 85 = .ok (.iadd, 1) := by decide +kernel
theorem dX8_save_86 : decode cX8_save 86 = .ok (.iload_n 3, 1) := by decide +kernel
theorem dX8_save_87 : decode cX8_save 87 = .ok (.iadd, 1) := by decide +kernel
theorem dX8_save_88 : decode cX8_save 88 = .ok (.aload_n 0, 1) := by decide +kernel
theorem dX8_save_89 : decode cX8_save 89 = .ok (.getfield 34, 3) := by decide +kernel
theorem dX8_save_92 : decode cX8_save 92 = .ok (.iload_n 3, 1) := by decide +kernel
theorem dX8_save_93 : decode cX8_save 93 = .ok (.iaload, 1) := by decide +kernel
theorem dX8_save_94 : decode cX8_save 94 = .ok (.iastore, 1) := by decide +kernel
theorem dX8_save_95 : decode cX8_save 95 = .ok (.iinc 3 1, 3) := by decide +kernel
theorem dX8_save_98 : decode cX8_save 98 = .ok (.goto (-91), 3) := by decide +kernel
theorem dX8_save_101 : decode cX8_save 101 = .ok (.aload_n 0, 1) := by decide +kernel
theorem dX8_save_102 : decode cX8_save 102 = .ok (.getfield 110, 3) := by decide +kernel
theorem dX8_save_105 : decode cX8_save 105 = .ok (.iload_n 2, 1) := by decide +kernel
theorem dX8_save_106 : decode cX8_save 106 = .ok (.bipush 30, 2) := by decide +kernel
theorem dX8_save_108 : decode cX8_save 108 = .ok (.iadd, 1) := by decide +kernel
theorem dX8_save_109 : decode cX8_save 109 = .ok (.aload_n 0, 1) := by decide +kernel
theorem dX8_save_110 : decode cX8_save 110 = .ok (.getfield 230, 3) := by decide +kernel
theorem dX8_save_113 : decode cX8_save 113 = .ok (.iastore, 1) := by decide +kernel
theorem dX8_save_114 : decode cX8_save 114 = .ok (.aload_n 0, 1) := by decide +kernel
theorem dX8_save_115 : decode cX8_save 115 = .ok (.getfield 110, 3) := by decide +kernel
theorem dX8_save_118 : decode cX8_save 118 = .ok (.iload_n 2, 1) := by decide +kernel
theorem dX8_save_119 : decode cX8_save 119 = .ok (.bipush 31, 2) := by decide +kernel
theorem dX8_save_121 : decode cX8_save 121 = .ok (.iadd, 1) := by decide +kernel
theorem dX8_save_122 : decode cX8_save 122 = .ok (.aload_n 0, 1) := by decide +kernel
theorem dX8_save_123 : decode cX8_save 123 = .ok (.getfield 349, 3) := by decide +kernel
theorem dX8_save_126 : decode cX8_save 126 = .ok (.iastore, 1) := by decide +kernel
theorem dX8_save_127 : decode cX8_save 127 = .ok (.return_, 1) := by decide +kernel
theorem dX8_load_0 : decode cX8_load 0 = .ok (.bipush 40, 2) := by decide +kernel
theorem dX8_load_2 : decode cX8_load 2 = .ok (.iload_n 1, 1) := by decide +kernel
theorem dX8_load_3 : decode cX8_load 3 = .ok (.imul, 1) := by decide +kernel
theorem dX8_load_4 : decode cX8_load 4 = .ok (.istore_n 2, 1) := by decide +kernel
theorem dX8_load_5 : decode cX8_load 5 = .ok (.iconst 0, 1) := by decide +kernel
theorem dX8_load_6 : decode cX8_load 6 = .ok (.istore_n 3, 1) := by decide +kernel
theorem dX8_load_7 : decode cX8_load 7 = .ok (.iload_n 3, 1) := by decide +kernel
theorem dX8_load_8 : decode cX8_load 8 = .ok (.bipush 6, 2) := by decide +kernel
theorem dX8_load_10 : decode cX8_load 10 = .ok (.if_icmp .ge 91, 3) := by decide +kernel
theorem dX8_load_13 : decode cX8_load 13 = .ok (.aload_n 0, 1) := by decide +kernel
theorem dX8_load_14 : decode cX8_load 14 = .ok (.getfield 37, 3) := by decide +kernel
theorem dX8_load_17 : decode cX8_load 17 = .ok (.iload_n 3, 1) := by decide +kernel
theorem dX8_load_18 : decode cX8_load 18 = .ok (.aload_n 0, 1) := by decide +kernel
theorem dX8_load_19 : decode cX8_load 19 = .ok (.getfield 110, 3) := by decide +kernel
theorem dX8_load_22 : decode cX8_load 22 = .ok (.iload_n 2, 1) := by decide +kernel
theorem dX8_load_23 : decode cX8_load 23 = .ok (.iload_n 3, 1) := by decide +kernel
theorem dX8_load_24 : decode cX8_load 24 = .ok (.iadd, 1) := by decide +kernel
theorem dX8_load_25 : decode cX8_load 25 = .ok (.iaload, 1) := by decide +kernel
theorem dX8_load_26 : decode cX8_load 26 = .ok (.iastore, 1) := by decide +kernel
theorem dX8_load_27 : decode cX8_load 27 = .ok (.aload_n 0, 1) := by decide +kernel
theorem dX8_load_28 : decode cX8_load 28 = .ok (.getfield 40, 3) := by decide +kernel
theorem dX8_load_31 : decode cX8_load 31 = .ok (.iload_n 3, 1) := by decide +kernel
theorem dX8_load_32 : decode cX8_load 32 = .ok (.aload_n 0, 1) := by decide +kernel
theorem dX8_load_33 : decode cX8_load 33 = .ok (.getfield 110, 3) := by decide +kernel
theorem dX8_load_36 : decode cX8_load 36 = .ok (.iload_n 2, 1) := by decide +kernel
theorem dX8_load_37 : decode cX8_load 37 = .ok (.bipush 6, 2) := by decide +kernel
theorem dX8_load_39 : decode cX8_load 39 = .ok (.iadd, 1) := by decide +kernel
theorem dX8_load_40 : decode cX8_load 40 = .ok (.iload_n 3, 1) := by decide +kernel
theorem dX8_load_41 : decode cX8_load 41 = .ok (.iadd, 1) := by decide +kernel
theorem dX8_load_42 : decode cX8_load 42 = .ok (.iaload, 1) := by decide +kernel
theorem dX8_load_43 : decode cX8_load 43 = .ok (.iastore, 1) := by decide +kernel
theorem dX8_load_44 : decode cX8_load 44 = .ok (.aload_n 0, 1) := by decide +kernel
theorem dX8_load_45 : decode cX8_load 45 = .ok (.getfield 43, 3) := by decide +kernel
theorem dX8_load_48 : decode cX8_load 48 = .ok (.iload_n 3, 1) := by decide +kernel
theorem dX8_load_49 : decode cX8_load 49 = .ok (.aload_n 0, 1) := by decide +kernel
theorem dX8_load_50 : decode cX8_load 50 = .ok (.getfield 110, 3) := by decide +kernel
theorem dX8_load_53 : decode cX8_load 53 = .ok (.iload_n 2, 1) := by decide +kernel
theorem dX8_load_54 : decode cX8_load 54 = .ok (.bipush 12, 2) := by decide +kernel
theorem dX8_load_56 : decode cX8_load 56 = .ok (.iadd, 1) := by decide +kernel
theorem dX8_load_57 : decode cX8_load 57 = .ok (.iload_n 3, 1) := by decide +kernel
theorem dX8_load_58 : decode cX8_load 58 = .ok (.iadd, 1) := by decide +kernel
theorem dX8_load_59 : decode cX8_load 59 = .ok (.iaload, 1) := by decide +kernel
theorem dX8_load_60 : decode cX8_load 60 = .ok (.iastore, 1) := by decide +kernel
theorem dX8_load_61 : decode cX8_load 61 = .ok (.aload_n 0, 1) := by decide +kernel
theorem dX8_load_62 : decode cX8_load 62 = .ok (.getfield 31, 3) := by decide +kernel
theorem dX8_load_65 : decode cX8_load 65 = .ok (.iload_n 3, 1) := by decide +kernel
theorem dX8_load_66 : decode cX8_load 66 = .ok (.aload_n 0, 1) := by decide +kernel
theorem dX8_load_67 : decode cX8_load 67 = .ok (.getfield 110, 3) := by decide +kernel
theorem dX8_load_70 : decode cX8_load 70 = .ok (.iload_n 2, 1) := by decide +kernel
theorem dX8_load_71 : decode cX8_load 71 = .ok (.bipush 18, 2) := by decide +kernel
theorem dX8_load_73 : decode cX8_load 73 = .ok (.iadd, 1) := by decide +kernel
theorem dX8_load_74 : decode cX8_load 74 = .ok (.iload_n 3, 1) := by decide +kernel
theorem dX8_load_75 : decode cX8_load 75 = .ok (.iadd, 1) := by decide +kernel
theorem dX8_load_76 : decode cX8_load 76 = .ok (.iaload, 1) := by decide +kernel
theorem dX8_load_77 : decode cX8_load 77 = .ok (.iastore, 1) := by decide +kernel
theorem dX8_load_78 : decode cX8_load 78 = .ok (.aload_n 0, 1) := by decide +kernel
theorem dX8_load_79 : decode cX8_load 79 = .ok (.getfield 34, 3) := by decide +kernel
theorem dX8_load_82 : decode cX8_load 82 = .ok (.iload_n 3, 1) := by decide +kernel
theorem dX8_load_83 : decode cX8_load 83 = .ok (.aload_n 0, 1) := by decide +kernel
theorem dX8_load_84 : decode cX8_load 84 = .ok (.getfield 110, 3) := by decide +kernel
theorem dX8_load_87 : decode cX8_load 87 = .ok (.iload_n 2, 1) := by decide +kernel
theorem dX8_load_88 : decode cX8_load 88 = .ok (.bipush 24, 2) := by decide +kernel
theorem dX8_load_90 : decode cX8_load 90 = .ok (.iadd, 1) := by decide +kernel
theorem dX8_load_91 : decode cX8_load 91 = .ok (.iload_n 3, 1) := by decide +kernel
theorem dX8_load_92 : decode cX8_load 92 = .ok (.iadd, 1) := by decide +kernel
theorem dX8_load_93 : decode cX8_load 93 = .ok (.iaload, 1) := by decide +kernel
theorem dX8_load_94 : decode cX8_load 94 = .ok (.iastore, 1) := by decide +kernel
theorem dX8_load_95 : decode cX8_load 95 = .ok (.iinc 3 1, 3) := by decide +kernel
theorem dX8_load_98 : decode cX8_load 98 = .ok (.goto (-91), 3) := by decide +kernel
theorem dX8_load_101 : decode cX8_load 101 = .ok (.aload_n 0, 1) := by decide +kernel
theorem dX8_load_102 : decode cX8_load 102 = .ok (.aload_n 0, 1) := by decide +kernel
theorem dX8_load_103 : decode cX8_load 103 = .ok (.getfield 110, 3) := by decide +kernel
theorem dX8_load_106 : decode cX8_load 106 = .ok (.iload_n 2, 1) := by decide +kernel
theorem dX8_load_107 : decode cX8_load 107 = .ok (.bipush 30, 2) := by decide +kernel
theorem dX8_load_109 : decode cX8_load 109 = .ok (.iadd, 1) := by decide +kernel
theorem dX8_load_110 : decode cX8_load 110 = .ok (.iaload, 1) := by decide +kernel
theorem dX8_load_111 : decode cX8_load 111 = .ok (.putfield 230, 3) := by decide +kernel
theorem dX8_load_114 : decode cX8_load 114 = .ok (.aload_n 0, 1) := by decide +kernel
theorem dX8_load_115 : decode cX8_load 115 = .ok (.aload_n 0, 1) := by decide +kernel
theorem dX8_load_116 : decode cX8_load 116 = .ok (.getfield 110, 3) := by decide +kernel
theorem dX8_load_119 : decode cX8_load 119 = .ok (.iload_n 2, 1) := by decide +kernel
theorem dX8_load_120 : decode cX8_load 120 = .ok (.bipush 31, 2) := by decide +kernel
theorem dX8_load_122 : decode cX8_load 122 = .ok (.iadd, 1) := by decide +kernel
theorem dX8_load_123 : decode cX8_load 123 = .ok (.iaload, 1) := by decide +kernel
theorem dX8_load_124 : decode cX8_load 124 = .ok (.putfield 349, 3) := by decide +kernel
theorem dX8_load_127 : decode cX8_load 127 = .ok (.return_, 1) := by decide +kernel
theorem dX8_keep_0 : decode cX8_keep 0 = .ok (.iload_n 1, 1) := by decide +kernel
theorem dX8_keep_1 : decode cX8_keep 1 = .ok (.i2l, 1) := by decide +kernel
theorem dX8_keep_2 : decode cX8_keep 2 = .ok (.lconst 0, 1) := by decide +kernel
theorem dX8_keep_3 : decode cX8_keep 3 = .ok (.lconst 1, 1) := by decide +kernel
theorem dX8_keep_4 : decode cX8_keep 4 = .ok (.invokestatic 123, 3) := by decide +kernel
theorem dX8_keep_7 : decode cX8_keep 7 = .ok (.ifCond .ne 6, 3) := by decide +kernel
theorem dX8_keep_10 : decode cX8_keep 10 = .ok (.ldc 240, 2) := by decide +kernel
theorem dX8_keep_12 : decode cX8_keep 12 = .ok (.ireturn, 1) := by decide +kernel
theorem dX8_keep_13 : decode cX8_keep 13 = .ok (.aload_n 0, 1) := by decide +kernel
theorem dX8_keep_14 : decode cX8_keep 14 = .ok (.iload_n 1, 1) := by decide +kernel
theorem dX8_keep_15 : decode cX8_keep 15 = .ok (.invokevirtual 343, 3) := by decide +kernel
theorem dX8_keep_18 : decode cX8_keep 18 = .ok (.aload_n 0, 1) := by decide +kernel
theorem dX8_keep_19 : decode cX8_keep 19 = .ok (.getfield 113, 3) := by decide +kernel
theorem dX8_keep_22 : decode cX8_keep 22 = .ok (.iload_n 1, 1) := by decide +kernel
theorem dX8_keep_23 : decode cX8_keep 23 = .ok (.iconst 1, 1) := by decide +kernel
theorem dX8_keep_24 : decode cX8_keep 24 = .ok (.bastore, 1) := by decide +kernel
theorem dX8_keep_25 : decode cX8_keep 25 = .ok (.iconst 1, 1) := by decide +kernel
theorem dX8_keep_26 : decode cX8_keep 26 = .ok (.ireturn, 1) := by decide +kernel
theorem dX8_goBack_0 : decode cX8_goBack 0 = .ok (.iload_n 1, 1) := by decide +kernel
theorem dX8_goBack_1 : decode cX8_goBack 1 = .ok (.i2l, 1) := by decide +kernel
theorem dX8_goBack_2 : decode cX8_goBack 2 = .ok (.lconst 0, 1) := by decide +kernel
theorem dX8_goBack_3 : decode cX8_goBack 3 = .ok (.lconst 1, 1) := by decide +kernel
theorem dX8_goBack_4 : decode cX8_goBack 4 = .ok (.invokestatic 123, 3) := by decide +kernel
theorem dX8_goBack_7 : decode cX8_goBack 7 = .ok (.ifCond .ne 6, 3) := by decide +kernel
theorem dX8_goBack_10 : decode cX8_goBack 10 = .ok (.ldc 240, 2) := by decide +kernel
theorem dX8_goBack_12 : decode cX8_goBack 12 = .ok (.ireturn, 1) := by decide +kernel
theorem dX8_goBack_13 : decode cX8_goBack 13 = .ok (.aload_n 0, 1) := by decide +kernel
theorem dX8_goBack_14 : decode cX8_goBack 14 = .ok (.getfield 113, 3) := by decide +kernel
theorem dX8_goBack_17 : decode cX8_goBack 17 = .ok (.iload_n 1, 1) := by decide +kernel
theorem dX8_goBack_18 : decode cX8_goBack 18 = .ok (.baload, 1) := by decide +kernel
theorem dX8_goBack_19 : decode cX8_goBack 19 = .ok (.ifCond .ne 7, 3) := by decide +kernel
theorem dX8_goBack_22 : decode cX8_goBack 22 = .ok (.ldc_w 259, 3) := by decide +kernel
theorem dX8_goBack_25 : decode cX8_goBack 25 = .ok (.ireturn, 1) := by decide +kernel
theorem dX8_goBack_26 : decode cX8_goBack 26 = .ok (.aload_n 0, 1) := by decide +kernel
theorem dX8_goBack_27 : decode cX8_goBack 27 = .ok (.iload_n 1, 1) := by decide +kernel
theorem dX8_goBack_28 : decode cX8_goBack 28 = .ok (.invokevirtual 346, 3) := by decide +kernel
theorem dX8_goBack_31 : decode cX8_goBack 31 = .ok (.iconst 1, 1) := by decide +kernel
theorem dX8_goBack_32 : decode cX8_goBack 32 = .ok (.ireturn, 1) := by decide +kernel
end
section
/-! the words that every method may use -/
def kkeep (w : Cond) : Bool := match w with
  | .arrayClass .. => true
  | .classLink .. => true
  | .code .. => true
  | .constant .. => true
  | .constantLong .. => true
  | .fieldLink .. => true
  | .initialized .. => true
  | .instanceMethod .. => true
  | .instantiable .. => true
  | .lays .. => true
  | .laysFinal .. => true
  | .methodLink .. => true
  | .native .. => true
  | .selects .. => true
  | .static .. => true
  | _ => false
def gtbl : List Cond := lw_tbl.filter kkeep
theorem gtbl_good : gtbl.all goodWord = true := by decide +kernel
theorem gtbl_in {w : Cond} (h : w ∈ gtbl) : w ∈ lw_tbl := (List.mem_filter.mp h).1
theorem gt_at {w : Cond} (i : Nat) (h : gtbl[i]? = some w) : w ∈ gtbl := List.mem_of_getElem? h
theorem gt_goodIn {big : List Cond} {w : Cond} (hw : w ∈ gtbl) (hb : ∀ w ∈ gtbl, w ∈ big) : GoodIn big (w :: gtbl) := by
  intro v hv
  have h1 : v ∈ gtbl := by
    rcases List.mem_cons.mp hv with e | h
    · exact e ▸ hw
    · exact h
  exact ⟨hb v h1, good_of_word (List.all_eq_true.mp gtbl_good v h1)⟩
theorem uws_0 : ∀ w ∈ u_ws RX0 TX0 4, w ∈ gtbl := by
  have h : u_ws RX0 TX0 4 = [287, 288, 289, 290].filterMap (fun i => gtbl[i]?) := by decide +kernel
  intro w hw
  rw [h] at hw
  obtain ⟨i, -, hi⟩ := List.mem_filterMap.mp hw
  exact List.mem_of_getElem? hi
theorem uws_1 : ∀ w ∈ u_ws RX1 TX1 2, w ∈ gtbl := by
  have h : u_ws RX1 TX1 2 = [195, 196].filterMap (fun i => gtbl[i]?) := by decide +kernel
  intro w hw
  rw [h] at hw
  obtain ⟨i, -, hi⟩ := List.mem_filterMap.mp hw
  exact List.mem_of_getElem? hi
theorem uws_2 : ∀ w ∈ u_ws RX2 TX2 7, w ∈ gtbl := by
  have h : u_ws RX2 TX2 7 = [267, 268, 269, 270, 271, 272, 273].filterMap (fun i => gtbl[i]?) := by decide +kernel
  intro w hw
  rw [h] at hw
  obtain ⟨i, -, hi⟩ := List.mem_filterMap.mp hw
  exact List.mem_of_getElem? hi
theorem uws_3 : ∀ w ∈ u_ws RX3 TX3 10, w ∈ gtbl := by
  have h : u_ws RX3 TX3 10 = [140, 141, 142, 143, 144, 145, 146, 147, 148, 149].filterMap (fun i => gtbl[i]?) := by decide +kernel
  intro w hw
  rw [h] at hw
  obtain ⟨i, -, hi⟩ := List.mem_filterMap.mp hw
  exact List.mem_of_getElem? hi
theorem uws_4 : ∀ w ∈ u_ws RX4 TX4 11, w ∈ gtbl := by
  have h : u_ws RX4 TX4 11 = [241, 242, 243, 244, 245, 246, 247, 248, 249, 250, 251].filterMap (fun i => gtbl[i]?) := by decide +kernel
  intro w hw
  rw [h] at hw
  obtain ⟨i, -, hi⟩ := List.mem_filterMap.mp hw
  exact List.mem_of_getElem? hi
theorem uws_5 : ∀ w ∈ u_ws RX5 TX5 8, w ∈ gtbl := by
  have h : u_ws RX5 TX5 8 = [215, 216, 217, 218, 219, 220, 221, 222].filterMap (fun i => gtbl[i]?) := by decide +kernel
  intro w hw
  rw [h] at hw
  obtain ⟨i, -, hi⟩ := List.mem_filterMap.mp hw
  exact List.mem_of_getElem? hi
theorem uws_6 : ∀ w ∈ u_ws RX6 TX6 7, w ∈ gtbl := by
  have h : u_ws RX6 TX6 7 = [180, 181, 182, 183, 184, 185, 186].filterMap (fun i => gtbl[i]?) := by decide +kernel
  intro w hw
  rw [h] at hw
  obtain ⟨i, -, hi⟩ := List.mem_filterMap.mp hw
  exact List.mem_of_getElem? hi
theorem uws_7 : ∀ w ∈ u_ws RX7 TX7 12, w ∈ gtbl := by
  have h : u_ws RX7 TX7 12 = [303, 304, 305, 306, 307, 308, 309, 310, 311, 312, 313, 314].filterMap (fun i => gtbl[i]?) := by decide +kernel
  intro w hw
  rw [h] at hw
  obtain ⟨i, -, hi⟩ := List.mem_filterMap.mp hw
  exact List.mem_of_getElem? hi
theorem uws_8 : ∀ w ∈ u_ws RX8 TX8 51, w ∈ gtbl := by
  have h : u_ws RX8 TX8 51 = [851, 852, 853, 854, 855, 856, 857, 858, 859, 860, 861, 862, 863, 864, 865, 866, 867, 868, 869, 870, 871, 872, 873, 874, 875, 876, 877, 878, 879, 880, 881, 882, 883, 884, 885, 886, 887, 888, 889, 890, 891, 892, 893, 894, 895, 896, 897, 898, 899, 900, 901].filterMap (fun i => gtbl[i]?) := by decide +kernel
  intro w hw
  rw [h] at hw
  obtain ⟨i, -, hi⟩ := List.mem_filterMap.mp hw
  exact List.mem_of_getElem? hi
end
section
/-! THE WORLD: cells of fixed shape at addresses X.2.1 id; what they hold: st -/
abbrev Sh : Type := (Nat × Nat) ⊕ ((List Nat) ⊕ (Nat × List (Option (Option Nat))))
abbrev St : Type := (Nat → Nat → Int32) × (Nat → Nat → Int64)
/-- the class numbers, the addresses, the array classes, the first address that may change, the addresses of the String constants and of their bytes -/
abbrev Cx : Type := va_G × (Nat → Nat) × (Nat → ClassId) × Nat × (Nat → Nat) × (Nat → Nat)
abbrev classes : List vw_C := [(RX0, TX0, 4), (RX1, TX1, 2), (RX2, TX2, 7), (RX3, TX3, 10), (RX4, TX4, 11), (RX5, TX5, 8), (RX6, TX6, 7), (RX7, TX7, 12), (RX8, TX8, 51)]
def shp : List Sh := [
  .inr (.inr (7, [some (some 1), some (some 9), some (some 15), some (some 16), some (some 22), some (some 23), some (some 33), some (some 38), some (some 41), some (some 45), some (some 58), none])),
  .inr (.inr (3, [none, none, none, some (some 2), some (some 3), some (some 4), some (some 5), some (some 6), some (some 7), some (some 8)])),
  .inl (0, 3),
  .inl (0, 18),
  .inl (0, 6),
  .inl (0, 6),
  .inl (0, 6),
  .inl (0, 6),
  .inl (0, 36),
  .inr (.inr (6, [some (some 10), some (some 11), some (some 12), some (some 13), some (some 14), none, none])),
  .inl (0, 6),
  .inl (0, 6),
  .inl (0, 6),
  .inl (0, 6),
  .inl (0, 6),
  .inr (.inr (1, [some (some 1), some (some 9)])),
  .inr (.inr (6, [some (some 17), some (some 18), some (some 19), some (some 20), some (some 21), none, none])),
  .inl (0, 6),
  .inl (0, 6),
  .inl (0, 6),
  .inl (0, 6),
  .inl (0, 6),
  .inr (.inr (1, [some (some 1), some (some 16)])),
  .inr (.inr (5, [some (some 24), none, none, none, some (some 32), none, none, none])),
  .inr (.inr (3, [none, none, none, some (some 25), some (some 26), some (some 27), some (some 28), some (some 29), some (some 30), some (some 31)])),
  .inl (0, 3),
  .inl (0, 18),
  .inl (0, 6),
  .inl (0, 6),
  .inl (0, 6),
  .inl (0, 6),
  .inl (0, 36),
  .inl (1, 500),
  .inr (.inr (4, [some (some 1), some (some 9), some (some 34), some (some 35), some (some 36), some (some 37), none, none, none, none, none])),
  .inl (0, 6),
  .inl (0, 6),
  .inl (0, 384),
  .inl (0, 6),
  .inr (.inr (2, [some (some 1), some (some 33), some (some 39), some (some 40), none, none, none])),
  .inl (0, 3),
  .inl (0, 3),
  .inr (.inr (0, [some (some 42), some (some 43), some (some 44), none])),
  .inl (0, 20),
  .inl (0, 20),
  .inl (0, 20),
  .inr (.inl [46, 52]),
  .inr (.inr (6, [some (some 47), some (some 48), some (some 49), some (some 50), some (some 51), none, none])),
  .inl (0, 6),
  .inl (0, 6),
  .inl (0, 6),
  .inl (0, 6),
  .inl (0, 6),
  .inr (.inr (6, [some (some 53), some (some 54), some (some 55), some (some 56), some (some 57), none, none])),
  .inl (0, 6),
  .inl (0, 6),
  .inl (0, 6),
  .inl (0, 6),
  .inl (0, 6),
  .inl (2, 2),
  .inr (.inr (8, [none, some (some 60), some (some 61), none, some (some 62), some (some 63), some (some 64), some (some 65), none, some (some 66), none, some (some 67), some (some 68), some (some 69), some (some 70), some (some 71), none, some (some 72), none, none, none, some none, none, none, none, none, some (some 73), some (some 74), none, some (some 75), some (some 76), some (some 77), some (some 78), none, some (some 79), some (some 80), some (some 81), some (some 82), some (some 83), some (some 84), some (some 85), some (some 86), none, some (some 87), some (some 88), none, some (some 89), some (some 90), some (some 91), some (some 92), some (some 93)])),
  .inl (0, 3),
  .inl (0, 18),
  .inl (0, 6),
  .inl (0, 6),
  .inl (0, 6),
  .inl (0, 6),
  .inl (0, 36),
  .inl (0, 6),
  .inl (0, 6),
  .inl (0, 6),
  .inl (0, 6),
  .inl (0, 6),
  .inl (0, 500),
  .inl (0, 3),
  .inl (0, 18),
  .inl (0, 6),
  .inl (0, 6),
  .inl (0, 6),
  .inl (0, 6),
  .inl (0, 36),
  .inl (0, 6),
  .inl (0, 6),
  .inl (0, 6),
  .inl (0, 6),
  .inl (0, 192),
  .inl (0, 6),
  .inl (0, 6),
  .inl (0, 6),
  .inl (0, 6),
  .inl (0, 20),
  .inl (0, 20),
  .inl (0, 20),
  .inl (0, 120),
  .inl (2, 2)]
theorem sh_0 : shp[0]? = some (.inr (.inr (7, [some (some 1), some (some 9), some (some 15), some (some 16), some (some 22), some (some 23), some (some 33), some (some 38), some (some 41), some (some 45), some (some 58), none]))) := rfl
theorem sh_1 : shp[1]? = some (.inr (.inr (3, [none, none, none, some (some 2), some (some 3), some (some 4), some (some 5), some (some 6), some (some 7), some (some 8)]))) := rfl
theorem sh_2 : shp[2]? = some (.inl (0, 3)) := rfl
theorem sh_3 : shp[3]? = some (.inl (0, 18)) := rfl
theorem sh_4 : shp[4]? = some (.inl (0, 6)) := rfl
theorem sh_5 : shp[5]? = some (.inl (0, 6)) := rfl
theorem sh_6 : shp[6]? = some (.inl (0, 6)) := rfl
theorem sh_7 : shp[7]? = some (.inl (0, 6)) := rfl
theorem sh_8 : shp[8]? = some (.inl (0, 36)) := rfl
theorem sh_9 : shp[9]? = some (.inr (.inr (6, [some (some 10), some (some 11), some (some 12), some (some 13), some (some 14), none, none]))) := rfl
theorem sh_10 : shp[10]? = some (.inl (0, 6)) := rfl
theorem sh_11 : shp[11]? = some (.inl (0, 6)) := rfl
theorem sh_12 : shp[12]? = some (.inl (0, 6)) := rfl
theorem sh_13 : shp[13]? = some (.inl (0, 6)) := rfl
theorem sh_14 : shp[14]? = some (.inl (0, 6)) := rfl
theorem sh_15 : shp[15]? = some (.inr (.inr (1, [some (some 1), some (some 9)]))) := rfl
theorem sh_16 : shp[16]? = some (.inr (.inr (6, [some (some 17), some (some 18), some (some 19), some (some 20), some (some 21), none, none]))) := rfl
theorem sh_17 : shp[17]? = some (.inl (0, 6)) := rfl
theorem sh_18 : shp[18]? = some (.inl (0, 6)) := rfl
theorem sh_19 : shp[19]? = some (.inl (0, 6)) := rfl
theorem sh_20 : shp[20]? = some (.inl (0, 6)) := rfl
theorem sh_21 : shp[21]? = some (.inl (0, 6)) := rfl
theorem sh_22 : shp[22]? = some (.inr (.inr (1, [some (some 1), some (some 16)]))) := rfl
theorem sh_23 : shp[23]? = some (.inr (.inr (5, [some (some 24), none, none, none, some (some 32), none, none, none]))) := rfl
theorem sh_24 : shp[24]? = some (.inr (.inr (3, [none, none, none, some (some 25), some (some 26), some (some 27), some (some 28), some (some 29), some (some 30), some (some 31)]))) := rfl
theorem sh_25 : shp[25]? = some (.inl (0, 3)) := rfl
theorem sh_26 : shp[26]? = some (.inl (0, 18)) := rfl
theorem sh_27 : shp[27]? = some (.inl (0, 6)) := rfl
theorem sh_28 : shp[28]? = some (.inl (0, 6)) := rfl
theorem sh_29 : shp[29]? = some (.inl (0, 6)) := rfl
theorem sh_30 : shp[30]? = some (.inl (0, 6)) := rfl
theorem sh_31 : shp[31]? = some (.inl (0, 36)) := rfl
theorem sh_32 : shp[32]? = some (.inl (1, 500)) := rfl
theorem sh_33 : shp[33]? = some (.inr (.inr (4, [some (some 1), some (some 9), some (some 34), some (some 35), some (some 36), some (some 37), none, none, none, none, none]))) := rfl
theorem sh_34 : shp[34]? = some (.inl (0, 6)) := rfl
theorem sh_35 : shp[35]? = some (.inl (0, 6)) := rfl
theorem sh_36 : shp[36]? = some (.inl (0, 384)) := rfl
theorem sh_37 : shp[37]? = some (.inl (0, 6)) := rfl
theorem sh_38 : shp[38]? = some (.inr (.inr (2, [some (some 1), some (some 33), some (some 39), some (some 40), none, none, none]))) := rfl
theorem sh_39 : shp[39]? = some (.inl (0, 3)) := rfl
theorem sh_40 : shp[40]? = some (.inl (0, 3)) := rfl
theorem sh_41 : shp[41]? = some (.inr (.inr (0, [some (some 42), some (some 43), some (some 44), none]))) := rfl
theorem sh_42 : shp[42]? = some (.inl (0, 20)) := rfl
theorem sh_43 : shp[43]? = some (.inl (0, 20)) := rfl
theorem sh_44 : shp[44]? = some (.inl (0, 20)) := rfl
theorem sh_45 : shp[45]? = some (.inr (.inl [46, 52])) := rfl
theorem sh_46 : shp[46]? = some (.inr (.inr (6, [some (some 47), some (some 48), some (some 49), some (some 50), some (some 51), none, none]))) := rfl
theorem sh_47 : shp[47]? = some (.inl (0, 6)) := rfl
theorem sh_48 : shp[48]? = some (.inl (0, 6)) := rfl
theorem sh_49 : shp[49]? = some (.inl (0, 6)) := rfl
theorem sh_50 : shp[50]? = some (.inl (0, 6)) := rfl
theorem sh_51 : shp[51]? = some (.inl (0, 6)) := rfl
theorem sh_52 : shp[52]? = some (.inr (.inr (6, [some (some 53), some (some 54), some (some 55), some (some 56), some (some 57), none, none]))) := rfl
theorem sh_53 : shp[53]? = some (.inl (0, 6)) := rfl
theorem sh_54 : shp[54]? = some (.inl (0, 6)) := rfl
theorem sh_55 : shp[55]? = some (.inl (0, 6)) := rfl
theorem sh_56 : shp[56]? = some (.inl (0, 6)) := rfl
theorem sh_57 : shp[57]? = some (.inl (0, 6)) := rfl
theorem sh_58 : shp[58]? = some (.inl (2, 2)) := rfl
theorem sh_59 : shp[59]? = some (.inr (.inr (8, [none, some (some 60), some (some 61), none, some (some 62), some (some 63), some (some 64), some (some 65), none, some (some 66), none, some (some 67), some (some 68), some (some 69), some (some 70), some (some 71), none, some (some 72), none, none, none, some none, none, none, none, none, some (some 73), some (some 74), none, some (some 75), some (some 76), some (some 77), some (some 78), none, some (some 79), some (some 80), some (some 81), some (some 82), some (some 83), some (some 84), some (some 85), some (some 86), none, some (some 87), some (some 88), none, some (some 89), some (some 90), some (some 91), some (some 92), some (some 93)]))) := rfl
theorem sh_60 : shp[60]? = some (.inl (0, 3)) := rfl
theorem sh_61 : shp[61]? = some (.inl (0, 18)) := rfl
theorem sh_62 : shp[62]? = some (.inl (0, 6)) := rfl
theorem sh_63 : shp[63]? = some (.inl (0, 6)) := rfl
theorem sh_64 : shp[64]? = some (.inl (0, 6)) := rfl
theorem sh_65 : shp[65]? = some (.inl (0, 6)) := rfl
theorem sh_66 : shp[66]? = some (.inl (0, 36)) := rfl
theorem sh_67 : shp[67]? = some (.inl (0, 6)) := rfl
theorem sh_68 : shp[68]? = some (.inl (0, 6)) := rfl
theorem sh_69 : shp[69]? = some (.inl (0, 6)) := rfl
theorem sh_70 : shp[70]? = some (.inl (0, 6)) := rfl
theorem sh_71 : shp[71]? = some (.inl (0, 6)) := rfl
theorem sh_72 : shp[72]? = some (.inl (0, 500)) := rfl
theorem sh_73 : shp[73]? = some (.inl (0, 3)) := rfl
theorem sh_74 : shp[74]? = some (.inl (0, 18)) := rfl
theorem sh_75 : shp[75]? = some (.inl (0, 6)) := rfl
theorem sh_76 : shp[76]? = some (.inl (0, 6)) := rfl
theorem sh_77 : shp[77]? = some (.inl (0, 6)) := rfl
theorem sh_78 : shp[78]? = some (.inl (0, 6)) := rfl
theorem sh_79 : shp[79]? = some (.inl (0, 36)) := rfl
theorem sh_80 : shp[80]? = some (.inl (0, 6)) := rfl
theorem sh_81 : shp[81]? = some (.inl (0, 6)) := rfl
theorem sh_82 : shp[82]? = some (.inl (0, 6)) := rfl
theorem sh_83 : shp[83]? = some (.inl (0, 6)) := rfl
theorem sh_84 : shp[84]? = some (.inl (0, 192)) := rfl
theorem sh_85 : shp[85]? = some (.inl (0, 6)) := rfl
theorem sh_86 : shp[86]? = some (.inl (0, 6)) := rfl
theorem sh_87 : shp[87]? = some (.inl (0, 6)) := rfl
theorem sh_88 : shp[88]? = some (.inl (0, 6)) := rfl
theorem sh_89 : shp[89]? = some (.inl (0, 20)) := rfl
theorem sh_90 : shp[90]? = some (.inl (0, 20)) := rfl
theorem sh_91 : shp[91]? = some (.inl (0, 20)) := rfl
theorem sh_92 : shp[92]? = some (.inl (0, 120)) := rfl
theorem sh_93 : shp[93]? = some (.inl (2, 2)) := rfl

def sA (st : St) (i : Nat) (f : Nat → Int32) : St := (fun a => if a = i then f else st.1 a, st.2)
def sV (st : St) (i k : Nat) (x : Int32) : St := sA st i (upd (st.1 i) k x)
def sJ (st : St) (i k : Nat) (x : Int64) : St := (st.1, fun a => if a = i then vp_updL (st.2 i) k x else st.2 a)
def fv (X : Cx) (st : St) (id k : Nat) (f : Option (Option Nat)) : Value := match f with
  | none => .int (st.1 id k)
  | some none => .long (st.2 id k)
  | some (some r) => .ref (X.2.1 r)
def wc (X : Cx) (st : St) (id : Nat) (c : Sh) : va_E := match c with
  | .inl (t, n) => .inl (X.2.2.1 t, n, .inl (st.1 id))
  | .inr (.inl ids) => .inl (X.2.2.1 3, ids.length, .inr (.inr (.inr (.inr (fun i => (ids[i]?).map X.2.1)))))
  | .inr (.inr (ci, fk)) => .inr (ci, fk.mapIdx (fv X st id))
def wW (X : Cx) (st : St) : va_W := shp.mapIdx (fun id c => (X.2.1 id, wc X st id c))
def cA (X : Cx) : Nat → Prop := fun q => X.2.2.2.1 ≤ q
def tyc (X : Cx) : List (ClassId × FieldType) := [(X.2.2.1 0, .int), (X.2.2.1 1, .byte), (X.2.2.1 2, .boolean), (X.2.2.1 3, .object "LowHeads$Scene")]
def Ok (X : Cx) : Prop := (∀ i j, i < shp.length → j < shp.length → X.2.1 i = X.2.1 j → i = j) ∧ (∀ i, i < shp.length → X.2.2.2.1 ≤ X.2.1 i)
def strLen : List Nat := [4, 6, 7]
def strByt : List (List Int32) := [[114, 111, 111, 109], [112, 101, 114, 115, 111, 110], [102, 114, 105, 101, 110, 100, 115]]
def strRef : List (Nat × String × Nat) := [(48, "room", 0), (64, "person", 1), (72, "friends", 2)]
/-- what else holds of a state: the nest mates' links, the String constants, a static -/
def cNl : List (String × Nat) := [(RX3, 43), (RX6, 35), (RX4, 37), (RX2, 65)]
def cE (X : Cx) (U : State) : Prop := (∀ q ∈ cNl, va_Nw (.methodLinkNest q.1 q.2 yX7_copyRow RX7) U) ∧ vk_S 3 strLen strByt X.2.2.2.2.1 X.2.2.2.2.2 (cA X) U U.heap ∧ (∀ q ∈ strRef, vk_R RX5 q.1 q.2.1 (X.2.2.2.2.1 q.2.2) U) ∧ va_Z "java/lang/String" "COMPACT_STRINGS" "Z" (.int 1) (cA X) U U.heap
theorem cE_same {X : Cx} {s U : State} (hv : U.vm = s.vm) (hh : U.heap = s.heap) (h : cE X s) : cE X U := by
  obtain ⟨h1, h2, h3, h4⟩ := h
  have ha : s.vm.Alike U.vm := by rw [hv]; exact Vm.Alike.refl _
  exact ⟨fun q hq => va_Nw.same rfl hv.symm (h1 q hq), by rw [hh]; exact h2.moved ha, fun q hq => vk_R.same hv (h3 q hq), by rw [hh]; exact h4.moved ha⟩
theorem cE_warm {X : Cx} {s U : State} (hW : s.WarmedH U.vm) (hk : ∀ q : Nat, q < s.heap.size → ¬ cA X q → U.heap[q]? = s.heap[q]?) (h : cE X s) : cE X U := by
  obtain ⟨h1, h2, h3, h4⟩ := h
  exact ⟨fun q hq => va_Nw.warmM hW (h1 q hq), (h2.moved hW.alike).kept hk, fun q hq => vk_R.warm hW (h3 q hq), (h4.moved hW.alike).kept hk⟩
theorem wW_get {X : Cx} {st : St} {id : Nat} {c : Sh} (h : shp[id]? = some c) : (wW X st)[id]? = some (X.2.1 id, wc X st id c) := by
  simp [wW, List.getElem?_mapIdx, h]
theorem wW_at {X : Cx} {st : St} {k : Nat} {q : Nat × va_E} (h : (wW X st)[k]? = some q) : ∃ c, shp[k]? = some c ∧ q = (X.2.1 k, wc X st k c) := by
  simp only [wW, List.getElem?_mapIdx] at h
  cases hc : shp[k]? with
  | none => rw [hc] at h; cases h
  | some c => rw [hc] at h; exact ⟨c, rfl, (Option.some.inj h).symm⟩
theorem wW_D {X : Cx} (hX : Ok X) (st : St) : va_D (cA X) (wW X st) := by
  refine ⟨fun i j p q hi hj e => ?_, fun k q hk => ?_⟩
  · obtain ⟨c, h1, rfl⟩ := wW_at hi
    obtain ⟨d, h2, rfl⟩ := wW_at hj
    exact hX.1 i j (List.getElem?_eq_some_iff.mp h1).1 (List.getElem?_eq_some_iff.mp h2).1 e
  · obtain ⟨c, h1, rfl⟩ := wW_at hk
    exact hX.2 k (List.getElem?_eq_some_iff.mp h1).1
theorem wc_same {X : Cx} {st st2 : St} {j : Nat} (c : Sh) (h1 : st2.1 j = st.1 j) (h2 : st2.2 j = st.2 j) : wc X st2 j c = wc X st j c := by
  rcases c with ⟨t, n⟩ | ids | ⟨ci, fk⟩
  · simp [wc, h1]
  · rfl
  · have : fv X st2 j = fv X st j := by
      funext k f
      rcases f with _ | _ | r
      · simp [fv, h1]
      · simp [fv, h2]
      · rfl
    simp [wc, this]
theorem wW_set {X : Cx} {st st2 : St} {id : Nat} {c : Sh} (h : shp[id]? = some c) {e : va_E} (he : wc X st2 id c = e) (h1 : ∀ j, j ≠ id → st2.1 j = st.1 j) (h2 : ∀ j, j ≠ id → st2.2 j = st.2 j) : (wW X st).set id (X.2.1 id, e) = wW X st2 := by
  have hl : id < (wW X st).length := (List.getElem?_eq_some_iff.mp (wW_get (X := X) (st := st) h)).1
  apply List.ext_getElem?
  intro j
  by_cases hj : j = id
  · subst hj
    rw [List.getElem?_set_self hl, wW_get h, he]
  · rw [List.getElem?_set_ne (Ne.symm hj)]
    cases hc : shp[j]? with
    | none => simp [wW, List.getElem?_mapIdx, hc]
    | some d => rw [wW_get hc, wW_get hc, wc_same d (h1 j hj) (h2 j hj)]
theorem sA_ne {st : St} {i j : Nat} {f : Nat → Int32} (h : j ≠ i) : (sA st i f).1 j = st.1 j := by simp [sA, h]
theorem sA_eq {st : St} {i : Nat} {f : Nat → Int32} : (sA st i f).1 i = f := by simp [sA]
theorem wW_setA {X : Cx} {st : St} {id t n : Nat} (h : shp[id]? = some (.inl (t, n))) (f : Nat → Int32) : (wW X st).set id (X.2.1 id, .inl (X.2.2.1 t, n, .inl f)) = wW X (sA st id f) := wW_set h (by simp [wc, sA_eq]) (fun j hj => sA_ne hj) (fun _ _ => rfl)
theorem wW_setI {X : Cx} {st : St} {id ci k : Nat} {fk : List (Option (Option Nat))} (h : shp[id]? = some (.inr (.inr (ci, fk)))) (hk : fk[k]? = some none) (x : Int32) : (wW X st).set id (X.2.1 id, .inr (ci, (fk.mapIdx (fv X st id)).set k (.int x))) = wW X (sV st id k x) := by
  refine wW_set h ?_ (fun j hj => sA_ne hj) (fun _ _ => rfl)
  have e : fk.mapIdx (fv X (sV st id k x) id) = (fk.mapIdx (fv X st id)).set k (.int x) := by
    apply List.ext_getElem?
    intro j
    have hl : k < (fk.mapIdx (fv X st id)).length := by rw [List.length_mapIdx]; exact (List.getElem?_eq_some_iff.mp hk).1
    by_cases hj : j = k
    · subst hj
      rw [List.getElem?_set_self hl, List.getElem?_mapIdx, hk]
      simp [fv, sV, sA_eq, upd]
    · rw [List.getElem?_set_ne (Ne.symm hj), List.getElem?_mapIdx, List.getElem?_mapIdx]
      cases fk[j]? with
      | none => rfl
      | some f =>
        rcases f with _ | _ | r
        · simp [fv, sV, sA_eq, upd, hj]
        · rfl
        · rfl
  simp [wc, e]
theorem wW_setL {X : Cx} {st : St} {id ci k : Nat} {fk : List (Option (Option Nat))} (h : shp[id]? = some (.inr (.inr (ci, fk)))) (hk : fk[k]? = some (some none)) (x : Int64) : (wW X st).set id (X.2.1 id, .inr (ci, (fk.mapIdx (fv X st id)).set k (.long x))) = wW X (sJ st id k x) := by
  refine wW_set h ?_ (fun _ _ => rfl) (fun j hj => by simp [sJ, hj])
  have e : fk.mapIdx (fv X (sJ st id k x) id) = (fk.mapIdx (fv X st id)).set k (.long x) := by
    apply List.ext_getElem?
    intro j
    have hl : k < (fk.mapIdx (fv X st id)).length := by rw [List.length_mapIdx]; exact (List.getElem?_eq_some_iff.mp hk).1
    by_cases hj : j = k
    · subst hj
      rw [List.getElem?_set_self hl, List.getElem?_mapIdx, hk]
      simp [fv, sJ, vp_updL]
    · rw [List.getElem?_set_ne (Ne.symm hj), List.getElem?_mapIdx, List.getElem?_mapIdx]
      cases fk[j]? with
      | none => rfl
      | some f =>
        rcases f with _ | _ | r
        · rfl
        · simp [fv, sJ, vp_updL, hj]
        · rfl
  simp [wc, e]
def imx (x y : Int32) : Int32 := if x < y then y else x
def imn (x y : Int32) : Int32 := if y < x then y else x
/-! the judgements -/
def rmk (k : Nat) : Room := { frames := k, cells := 0, slots := 0, locals := 40 * k }
def Wd (X : Cx) (st : St) (U : State) : Prop := va_P X.1 classes (wW X st) U.heap ∧ va_K X.1 classes (tyc X) U ∧ X.2.2.2.1 ≤ U.heap.size ∧ cE X U
def Qf (X : Cx) (v : Option Value) (st' : St) : Array Value → State → Outcome → State → Prop := fun _ s o t => (o = .returned v ∧ va_P X.1 classes (wW X st') t.heap) ∧ va_F (cA X) s t
/-- a method's contract: called with these values over st it answers v and leaves st' -/
def Ct (l : Launch) (X : Cx) (k : Nat) (y : MethodName) (cd : Cond) (as : List Value) (st : St) (v : Option Value) (st' : St) : Prop :=
  Met l y (cd :: gtbl) (rmk k) (va_Pc as (Wd X st)) (Qf X v st') 0 0 (cA X)
def Hy (X : Cx) (p : Program) (s : State) (m : MethodId) (args : Array Value) (meth : Method) (c : Code) (cc : ByteArray) (nL : Nat) (own : String) : Prop :=
  p.tables.exec = Jvm.exec ∧ c.code = cc ∧ c.maxLocals = nL ∧ s.vm.findClass own = some m.cls ∧ (∀ w ∈ gtbl, w.before args s = true) ∧ va_K X.1 classes (tyc X) s ∧ X.2.2.2.1 ≤ s.heap.size ∧ cE X s ∧ Ok X ∧ meth.locks = false
def Z (X : Cx) (p : Program) (l : Launch) (e : Env) (R : Room) (s : State) (m : MethodId) (args : Array Value) (below : List Frame) (meth : Method) (c : Code) (nL : Nat) (Q : State → Prop) (pc : Nat) (lv : List (Nat × Value)) (stk : List Value) (st : St) : Prop :=
  ∀ (H : Heap) (locs : List Loc) (ls : Array Slot), va_P X.1 classes (wW X st) H → va_S (cA X) s.heap H locs → lv_has ls nL lv → W p l e R s m args below meth c H locs 0 0 Q (F0 m pc ls stk)
theorem Wd_blind {X : Cx} (hX : Ok X) (as : List Value) (st : St) : FrameBlind (va_Pc as (Wd X st)) := by
  intro a U g mk h
  obtain ⟨h1, h2, h3, h4, h5⟩ := h
  exact ⟨h1, h2, va_K.moved (u := U) (U := U.calling g mk a) (Vm.Alike.refl U.vm) h3, h4, cE_same (s := U) (U := U.calling g mk a) rfl rfl h5⟩
theorem Ct.of {l : Launch} {X : Cx} {k : Nat} {y : MethodName} {cc : ByteArray} {maxL : Nat} {ret : Option FieldType} {as : List Value} {st st' : St} {v : Option Value} (hX : Ok X) (hy : plainName y.cls = true) (hl : (lg_sl as).length ≤ maxL)
    (body : ∀ (p : Program) (e : Env) (s : State) (m : MethodId) (args : Array Value) (below : List Frame) (meth : Method) (c : Code), Hy X p s m args meth c cc maxL y.cls → meth.sig.returnType = ret → Z X p l e (rmk k) s m args below meth c maxL (MQ below (Qf X v st') args s 0 0 (cA X)) 0 (lv_args 0 as) [] st) :
    Ct l X k y (.code y cc maxL ret) as st v st' := by
  refine Met.ofW (cc := cc) (maxL := maxL) (ret := ret) hy rfl ?_
  intro p e s m args below meth c s₁ B hml hv
  obtain ⟨rfl, hP, hK, hh, hE⟩ := hv
  have hts := atoms_spec (ws := .code y cc maxL ret :: gtbl) B.pre
  have hown : s.vm.findClass y.cls = some m.cls := findClass_of_methodNamed B.named
  rw [lg_entry_eq]
  exact body p e s m _ below meth c ⟨B.exec, B.bytes, hml, hown, fun w hw => hts w (List.mem_cons_of_mem _ hw), hK, hh, hE, hX, B.notSynchronized⟩ B.returns s.heap [] _ hP va_S.rf (lv_entry as hl)
section X
variable {X : Cx} {p : Program} {l : Launch} {e : Env} {R : Room} {s : State} {m : MethodId} {args : Array Value} {below : List Frame} {meth : Method} {c : Code} {cc : ByteArray} {nL : Nat} {own : String} {Q : State → Prop} {pc : Nat} {lv : List (Nat × Value)} {rest : List Value} {st : St}
theorem x_iconst (hh : Hy X p s m args meth c cc nL own) {n : Int} (hd : decode cc pc = .ok (.iconst n, 1)) (v : Int32) (hv : Int32.ofInt n = v) (pc' : Nat) (hp : pc + 1 = pc') (k : Z X p l e R s m args below meth c nL Q pc' lv (.int v :: rest) st) : Z X p l e R s m args below meth c nL Q pc lv (rest) st := by
  subst hp
  exact fun H locs ls hP hS hl => lv_iconst hh.1 hh.2.1 hd hv (k H locs ls hP hS hl)
theorem x_bipush (hh : Hy X p s m args meth c cc nL own) {n : Int} (hd : decode cc pc = .ok (.bipush n, 2)) (v : Int32) (hv : (Int8.ofInt n).toInt32 = v) (pc' : Nat) (hp : pc + 2 = pc') (k : Z X p l e R s m args below meth c nL Q pc' lv (.int v :: rest) st) : Z X p l e R s m args below meth c nL Q pc lv (rest) st := by
  subst hp
  exact fun H locs ls hP hS hl => lv_bipush hh.1 hh.2.1 hd hv (k H locs ls hP hS hl)
theorem x_sipush (hh : Hy X p s m args meth c cc nL own) {n : Int} (hd : decode cc pc = .ok (.sipush n, 3)) (v : Int32) (hv : (Int16.ofInt n).toInt32 = v) (pc' : Nat) (hp : pc + 3 = pc') (k : Z X p l e R s m args below meth c nL Q pc' lv (.int v :: rest) st) : Z X p l e R s m args below meth c nL Q pc lv (rest) st := by
  subst hp
  exact fun H locs ls hP hS hl => lv_sipush hh.1 hh.2.1 hd hv (k H locs ls hP hS hl)
theorem x_lconst (hh : Hy X p s m args meth c cc nL own) {n : Fin 2} (hd : decode cc pc = .ok (.lconst n, 1)) (v : Int64) (hv : Int64.ofNat (n : Nat) = v) (pc' : Nat) (hp : pc + 1 = pc') (k : Z X p l e R s m args below meth c nL Q pc' lv (.long v :: rest) st) : Z X p l e R s m args below meth c nL Q pc lv (rest) st := by
  subst hp
  exact fun H locs ls hP hS hl => lv_lconst hh.1 hh.2.1 hd hv (k H locs ls hP hS hl)
theorem x_iload_n (hh : Hy X p s m args meth c cc nL own) {n : Fin 4} {i : Nat} {x : Int32} (hd : decode cc pc = .ok (.iload_n n, 1)) (hi : (n : Nat) = i) (j : Nat) (hj : lv[j]? = some (i, .int x)) (pc' : Nat) (hp : pc + 1 = pc') (k : Z X p l e R s m args below meth c nL Q pc' lv (.int x :: rest) st) : Z X p l e R s m args below meth c nL Q pc lv (rest) st := by
  subst hp
  exact fun H locs ls hP hS hl => lv_iload_n hh.1 hh.2.1 hd hi (lv_at hl j hj) (k H locs ls hP hS hl)
theorem x_iload (hh : Hy X p s m args meth c cc nL own) {i : Nat} {x : Int32} (hd : decode cc pc = .ok (.iload i, 2)) (j : Nat) (hj : lv[j]? = some (i, .int x)) (pc' : Nat) (hp : pc + 2 = pc') (k : Z X p l e R s m args below meth c nL Q pc' lv (.int x :: rest) st) : Z X p l e R s m args below meth c nL Q pc lv (rest) st := by
  subst hp
  exact fun H locs ls hP hS hl => lv_iload hh.1 hh.2.1 hd (lv_at hl j hj) (k H locs ls hP hS hl)
theorem x_istore_n (hh : Hy X p s m args meth c cc nL own) {n : Fin 4} {i : Nat} {x : Int32} (hd : decode cc pc = .ok (.istore_n n, 1)) (hi : (n : Nat) = i) (hn : i < nL) (lv' : List (Nat × Value)) (hl : (i, Value.int x) :: lv.filter (fun q => !(q.1 == i) && !(q.1 + 1 == i && q.2.category == 2)) = lv') (pc' : Nat) (hp : pc + 1 = pc') (k : Z X p l e R s m args below meth c nL Q pc' lv' rest st) : Z X p l e R s m args below meth c nL Q pc lv (.int x :: rest) st := by
  subst hp
  exact fun H locs ls hP hS hl0 => lv_istore_n hh.1 hh.2.1 hd hi hl0 hn hl (fun ls' hl' => k H locs ls' hP hS hl')
theorem x_istore (hh : Hy X p s m args meth c cc nL own) {i : Nat} {x : Int32} (hd : decode cc pc = .ok (.istore i, 2)) (hn : i < nL) (lv' : List (Nat × Value)) (hl : (i, Value.int x) :: lv.filter (fun q => !(q.1 == i) && !(q.1 + 1 == i && q.2.category == 2)) = lv') (pc' : Nat) (hp : pc + 2 = pc') (k : Z X p l e R s m args below meth c nL Q pc' lv' rest st) : Z X p l e R s m args below meth c nL Q pc lv (.int x :: rest) st := by
  subst hp
  exact fun H locs ls hP hS hl0 => lv_istore hh.1 hh.2.1 hd hl0 hn hl (fun ls' hl' => k H locs ls' hP hS hl')
theorem x_lload_n (hh : Hy X p s m args meth c cc nL own) {n : Fin 4} {i : Nat} {x : Int64} (hd : decode cc pc = .ok (.lload_n n, 1)) (hi : (n : Nat) = i) (j : Nat) (hj : lv[j]? = some (i, .long x)) (pc' : Nat) (hp : pc + 1 = pc') (k : Z X p l e R s m args below meth c nL Q pc' lv (.long x :: rest) st) : Z X p l e R s m args below meth c nL Q pc lv (rest) st := by
  subst hp
  exact fun H locs ls hP hS hl => lv_lload_n hh.1 hh.2.1 hd hi (lv_at hl j hj) (k H locs ls hP hS hl)
theorem x_lload (hh : Hy X p s m args meth c cc nL own) {i : Nat} {x : Int64} (hd : decode cc pc = .ok (.lload i, 2)) (j : Nat) (hj : lv[j]? = some (i, .long x)) (pc' : Nat) (hp : pc + 2 = pc') (k : Z X p l e R s m args below meth c nL Q pc' lv (.long x :: rest) st) : Z X p l e R s m args below meth c nL Q pc lv (rest) st := by
  subst hp
  exact fun H locs ls hP hS hl => lv_lload hh.1 hh.2.1 hd (lv_at hl j hj) (k H locs ls hP hS hl)
theorem x_lstore_n (hh : Hy X p s m args meth c cc nL own) {n : Fin 4} {i : Nat} {x : Int64} (hd : decode cc pc = .ok (.lstore_n n, 1)) (hi : (n : Nat) = i) (hn : i + 1 < nL) (lv' : List (Nat × Value)) (hl : (i, Value.long x) :: lv.filter (fun q => !(q.1 == i) && (!(q.1 == i + 1) && !(q.1 + 1 == i && q.2.category == 2))) = lv') (pc' : Nat) (hp : pc + 1 = pc') (k : Z X p l e R s m args below meth c nL Q pc' lv' rest st) : Z X p l e R s m args below meth c nL Q pc lv (.long x :: rest) st := by
  subst hp
  exact fun H locs ls hP hS hl0 => lv_lstore_n hh.1 hh.2.1 hd hi hl0 hn hl (fun ls' hl' => k H locs ls' hP hS hl')
theorem x_lstore (hh : Hy X p s m args meth c cc nL own) {i : Nat} {x : Int64} (hd : decode cc pc = .ok (.lstore i, 2)) (hn : i + 1 < nL) (lv' : List (Nat × Value)) (hl : (i, Value.long x) :: lv.filter (fun q => !(q.1 == i) && (!(q.1 == i + 1) && !(q.1 + 1 == i && q.2.category == 2))) = lv') (pc' : Nat) (hp : pc + 2 = pc') (k : Z X p l e R s m args below meth c nL Q pc' lv' rest st) : Z X p l e R s m args below meth c nL Q pc lv (.long x :: rest) st := by
  subst hp
  exact fun H locs ls hP hS hl0 => lv_lstore hh.1 hh.2.1 hd hl0 hn hl (fun ls' hl' => k H locs ls' hP hS hl')
theorem x_aload_n (hh : Hy X p s m args meth c cc nL own) {n : Fin 4} {i : Nat} {x : Nat} (hd : decode cc pc = .ok (.aload_n n, 1)) (hi : (n : Nat) = i) (j : Nat) (hj : lv[j]? = some (i, .ref x)) (pc' : Nat) (hp : pc + 1 = pc') (k : Z X p l e R s m args below meth c nL Q pc' lv (.ref x :: rest) st) : Z X p l e R s m args below meth c nL Q pc lv (rest) st := by
  subst hp
  exact fun H locs ls hP hS hl => lv_aload_n hh.1 hh.2.1 hd hi (lv_at hl j hj) (k H locs ls hP hS hl)
theorem x_aload (hh : Hy X p s m args meth c cc nL own) {i : Nat} {x : Nat} (hd : decode cc pc = .ok (.aload i, 2)) (j : Nat) (hj : lv[j]? = some (i, .ref x)) (pc' : Nat) (hp : pc + 2 = pc') (k : Z X p l e R s m args below meth c nL Q pc' lv (.ref x :: rest) st) : Z X p l e R s m args below meth c nL Q pc lv (rest) st := by
  subst hp
  exact fun H locs ls hP hS hl => lv_aload hh.1 hh.2.1 hd (lv_at hl j hj) (k H locs ls hP hS hl)
theorem x_astore_n (hh : Hy X p s m args meth c cc nL own) {n : Fin 4} {i : Nat} {x : Nat} (hd : decode cc pc = .ok (.astore_n n, 1)) (hi : (n : Nat) = i) (hn : i < nL) (lv' : List (Nat × Value)) (hl : (i, Value.ref x) :: lv.filter (fun q => !(q.1 == i) && !(q.1 + 1 == i && q.2.category == 2)) = lv') (pc' : Nat) (hp : pc + 1 = pc') (k : Z X p l e R s m args below meth c nL Q pc' lv' rest st) : Z X p l e R s m args below meth c nL Q pc lv (.ref x :: rest) st := by
  subst hp
  exact fun H locs ls hP hS hl0 => lv_astore_n hh.1 hh.2.1 hd hi hl0 hn hl (fun ls' hl' => k H locs ls' hP hS hl')
theorem x_astore (hh : Hy X p s m args meth c cc nL own) {i : Nat} {x : Nat} (hd : decode cc pc = .ok (.astore i, 2)) (hn : i < nL) (lv' : List (Nat × Value)) (hl : (i, Value.ref x) :: lv.filter (fun q => !(q.1 == i) && !(q.1 + 1 == i && q.2.category == 2)) = lv') (pc' : Nat) (hp : pc + 2 = pc') (k : Z X p l e R s m args below meth c nL Q pc' lv' rest st) : Z X p l e R s m args below meth c nL Q pc lv (.ref x :: rest) st := by
  subst hp
  exact fun H locs ls hP hS hl0 => lv_astore hh.1 hh.2.1 hd hl0 hn hl (fun ls' hl' => k H locs ls' hP hS hl')
theorem x_iinc (hh : Hy X p s m args meth c cc nL own) {i : Nat} {n : Int} {x : Int32} (hd : decode cc pc = .ok (.iinc i n, 3)) (j : Nat) (hj : lv[j]? = some (i, .int x)) (v : Int32) (hv : x + Int32.ofInt n = v) (hn : i < nL) (lv' : List (Nat × Value)) (hl : (i, Value.int v) :: lv.filter (fun q => !(q.1 == i) && !(q.1 + 1 == i && q.2.category == 2)) = lv') (pc' : Nat) (hp : pc + 3 = pc') (k : Z X p l e R s m args below meth c nL Q pc' lv' rest st) : Z X p l e R s m args below meth c nL Q pc lv rest st := by
  subst hp
  exact fun H locs ls hP hS hl0 => lv_iinc hh.1 hh.2.1 hd hl0 hj hv hn hl (fun ls' hl' => k H locs ls' hP hS hl')
theorem x_iadd (hh : Hy X p s m args meth c cc nL own) {x y : Int32} (hd : decode cc pc = .ok (.iadd, 1))  (pc' : Nat) (hp : pc + 1 = pc') (k : Z X p l e R s m args below meth c nL Q pc' lv (.int (x + y) :: rest) st) : Z X p l e R s m args below meth c nL Q pc lv (.int y :: .int x :: rest) st := by
  subst hp
  exact fun H locs ls hP hS hl => lv_iadd hh.1 hh.2.1 hd  (k H locs ls hP hS hl)
theorem x_isub (hh : Hy X p s m args meth c cc nL own) {x y : Int32} (hd : decode cc pc = .ok (.isub, 1))  (pc' : Nat) (hp : pc + 1 = pc') (k : Z X p l e R s m args below meth c nL Q pc' lv (.int (x - y) :: rest) st) : Z X p l e R s m args below meth c nL Q pc lv (.int y :: .int x :: rest) st := by
  subst hp
  exact fun H locs ls hP hS hl => lv_isub hh.1 hh.2.1 hd  (k H locs ls hP hS hl)
theorem x_imul (hh : Hy X p s m args meth c cc nL own) {x y : Int32} (hd : decode cc pc = .ok (.imul, 1))  (pc' : Nat) (hp : pc + 1 = pc') (k : Z X p l e R s m args below meth c nL Q pc' lv (.int (x * y) :: rest) st) : Z X p l e R s m args below meth c nL Q pc lv (.int y :: .int x :: rest) st := by
  subst hp
  exact fun H locs ls hP hS hl => lv_imul hh.1 hh.2.1 hd  (k H locs ls hP hS hl)
theorem x_iand (hh : Hy X p s m args meth c cc nL own) {x y : Int32} (hd : decode cc pc = .ok (.iand, 1))  (pc' : Nat) (hp : pc + 1 = pc') (k : Z X p l e R s m args below meth c nL Q pc' lv (.int (x &&& y) :: rest) st) : Z X p l e R s m args below meth c nL Q pc lv (.int y :: .int x :: rest) st := by
  subst hp
  exact fun H locs ls hP hS hl => lv_iand hh.1 hh.2.1 hd  (k H locs ls hP hS hl)
theorem x_ior (hh : Hy X p s m args meth c cc nL own) {x y : Int32} (hd : decode cc pc = .ok (.ior, 1))  (pc' : Nat) (hp : pc + 1 = pc') (k : Z X p l e R s m args below meth c nL Q pc' lv (.int (x ||| y) :: rest) st) : Z X p l e R s m args below meth c nL Q pc lv (.int y :: .int x :: rest) st := by
  subst hp
  exact fun H locs ls hP hS hl => lv_ior hh.1 hh.2.1 hd  (k H locs ls hP hS hl)
theorem x_ixor (hh : Hy X p s m args meth c cc nL own) {x y : Int32} (hd : decode cc pc = .ok (.ixor, 1))  (pc' : Nat) (hp : pc + 1 = pc') (k : Z X p l e R s m args below meth c nL Q pc' lv (.int (x ^^^ y) :: rest) st) : Z X p l e R s m args below meth c nL Q pc lv (.int y :: .int x :: rest) st := by
  subst hp
  exact fun H locs ls hP hS hl => lv_ixor hh.1 hh.2.1 hd  (k H locs ls hP hS hl)
theorem x_ishl (hh : Hy X p s m args meth c cc nL own) {x y : Int32} (hd : decode cc pc = .ok (.ishl, 1))  (pc' : Nat) (hp : pc + 1 = pc') (k : Z X p l e R s m args below meth c nL Q pc' lv (.int (x <<< (y &&& 31)) :: rest) st) : Z X p l e R s m args below meth c nL Q pc lv (.int y :: .int x :: rest) st := by
  subst hp
  exact fun H locs ls hP hS hl => lv_ishl hh.1 hh.2.1 hd  (k H locs ls hP hS hl)
theorem x_ishr (hh : Hy X p s m args meth c cc nL own) {x y : Int32} (hd : decode cc pc = .ok (.ishr, 1))  (pc' : Nat) (hp : pc + 1 = pc') (k : Z X p l e R s m args below meth c nL Q pc' lv (.int (x >>> (y &&& 31)) :: rest) st) : Z X p l e R s m args below meth c nL Q pc lv (.int y :: .int x :: rest) st := by
  subst hp
  exact fun H locs ls hP hS hl => lv_ishr hh.1 hh.2.1 hd  (k H locs ls hP hS hl)
theorem x_idiv (hh : Hy X p s m args meth c cc nL own) {x y : Int32} (hd : decode cc pc = .ok (.idiv, 1)) (hne : ¬ y = 0) (pc' : Nat) (hp : pc + 1 = pc') (k : Z X p l e R s m args below meth c nL Q pc' lv (.int (x / y) :: rest) st) : Z X p l e R s m args below meth c nL Q pc lv (.int y :: .int x :: rest) st := by
  subst hp
  exact fun H locs ls hP hS hl => lv_idiv hh.1 hh.2.1 hd hne (k H locs ls hP hS hl)
theorem x_irem (hh : Hy X p s m args meth c cc nL own) {x y : Int32} (hd : decode cc pc = .ok (.irem, 1)) (hne : ¬ y = 0) (pc' : Nat) (hp : pc + 1 = pc') (k : Z X p l e R s m args below meth c nL Q pc' lv (.int (x - x / y * y) :: rest) st) : Z X p l e R s m args below meth c nL Q pc lv (.int y :: .int x :: rest) st := by
  subst hp
  exact fun H locs ls hP hS hl => lv_irem hh.1 hh.2.1 hd hne (k H locs ls hP hS hl)
theorem x_iushr (hh : Hy X p s m args meth c cc nL own) {x y : Int32} (hd : decode cc pc = .ok (.iushr, 1))  (pc' : Nat) (hp : pc + 1 = pc') (k : Z X p l e R s m args below meth c nL Q pc' lv (.int ((x.toUInt32 >>> (y.toUInt32 &&& Int32.toUInt32 31)).toInt32) :: rest) st) : Z X p l e R s m args below meth c nL Q pc lv (.int y :: .int x :: rest) st := by
  subst hp
  exact fun H locs ls hP hS hl => lv_iushr hh.1 hh.2.1 hd rfl (k H locs ls hP hS hl)
theorem x_ladd (hh : Hy X p s m args meth c cc nL own) {x y : Int64} (hd : decode cc pc = .ok (.ladd, 1))  (pc' : Nat) (hp : pc + 1 = pc') (k : Z X p l e R s m args below meth c nL Q pc' lv (.long (x + y) :: rest) st) : Z X p l e R s m args below meth c nL Q pc lv (.long y :: .long x :: rest) st := by
  subst hp
  exact fun H locs ls hP hS hl => lv_ladd hh.1 hh.2.1 hd  (k H locs ls hP hS hl)
theorem x_lsub (hh : Hy X p s m args meth c cc nL own) {x y : Int64} (hd : decode cc pc = .ok (.lsub, 1))  (pc' : Nat) (hp : pc + 1 = pc') (k : Z X p l e R s m args below meth c nL Q pc' lv (.long (x - y) :: rest) st) : Z X p l e R s m args below meth c nL Q pc lv (.long y :: .long x :: rest) st := by
  subst hp
  exact fun H locs ls hP hS hl => lv_lsub hh.1 hh.2.1 hd  (k H locs ls hP hS hl)
theorem x_lmul (hh : Hy X p s m args meth c cc nL own) {x y : Int64} (hd : decode cc pc = .ok (.lmul, 1))  (pc' : Nat) (hp : pc + 1 = pc') (k : Z X p l e R s m args below meth c nL Q pc' lv (.long (x * y) :: rest) st) : Z X p l e R s m args below meth c nL Q pc lv (.long y :: .long x :: rest) st := by
  subst hp
  exact fun H locs ls hP hS hl => lv_lmul hh.1 hh.2.1 hd  (k H locs ls hP hS hl)
theorem x_land (hh : Hy X p s m args meth c cc nL own) {x y : Int64} (hd : decode cc pc = .ok (.land, 1))  (pc' : Nat) (hp : pc + 1 = pc') (k : Z X p l e R s m args below meth c nL Q pc' lv (.long (x &&& y) :: rest) st) : Z X p l e R s m args below meth c nL Q pc lv (.long y :: .long x :: rest) st := by
  subst hp
  exact fun H locs ls hP hS hl => lv_land hh.1 hh.2.1 hd  (k H locs ls hP hS hl)
theorem x_lor (hh : Hy X p s m args meth c cc nL own) {x y : Int64} (hd : decode cc pc = .ok (.lor, 1))  (pc' : Nat) (hp : pc + 1 = pc') (k : Z X p l e R s m args below meth c nL Q pc' lv (.long (x ||| y) :: rest) st) : Z X p l e R s m args below meth c nL Q pc lv (.long y :: .long x :: rest) st := by
  subst hp
  exact fun H locs ls hP hS hl => lv_lor hh.1 hh.2.1 hd  (k H locs ls hP hS hl)
theorem x_lrem (hh : Hy X p s m args meth c cc nL own) {x y : Int64} (hd : decode cc pc = .ok (.lrem, 1)) (hne : ¬ y = 0) (pc' : Nat) (hp : pc + 1 = pc') (k : Z X p l e R s m args below meth c nL Q pc' lv (.long (x - x / y * y) :: rest) st) : Z X p l e R s m args below meth c nL Q pc lv (.long y :: .long x :: rest) st := by
  subst hp
  exact fun H locs ls hP hS hl => lv_lrem hh.1 hh.2.1 hd hne (k H locs ls hP hS hl)
theorem x_lshl (hh : Hy X p s m args meth c cc nL own) {x : Int64} {y : Int32} (hd : decode cc pc = .ok (.lshl, 1))  (pc' : Nat) (hp : pc + 1 = pc') (k : Z X p l e R s m args below meth c nL Q pc' lv (.long (x <<< (y.toInt64 &&& 63)) :: rest) st) : Z X p l e R s m args below meth c nL Q pc lv (.int y :: .long x :: rest) st := by
  subst hp
  exact fun H locs ls hP hS hl => lv_lshl hh.1 hh.2.1 hd rfl (k H locs ls hP hS hl)
theorem x_lshr (hh : Hy X p s m args meth c cc nL own) {x : Int64} {y : Int32} (hd : decode cc pc = .ok (.lshr, 1))  (pc' : Nat) (hp : pc + 1 = pc') (k : Z X p l e R s m args below meth c nL Q pc' lv (.long (x >>> (y.toInt64 &&& 63)) :: rest) st) : Z X p l e R s m args below meth c nL Q pc lv (.int y :: .long x :: rest) st := by
  subst hp
  exact fun H locs ls hP hS hl => lv_lshr hh.1 hh.2.1 hd rfl (k H locs ls hP hS hl)
theorem x_lcmp (hh : Hy X p s m args meth c cc nL own) {x y : Int64} (hd : decode cc pc = .ok (.lcmp, 1))  (pc' : Nat) (hp : pc + 1 = pc') (k : Z X p l e R s m args below meth c nL Q pc' lv (.int (lg_cmp x y) :: rest) st) : Z X p l e R s m args below meth c nL Q pc lv (.long y :: .long x :: rest) st := by
  subst hp
  exact fun H locs ls hP hS hl => W.lcmp hh.1 hh.2.1 hd  (k H locs ls hP hS hl)
theorem x_i2l (hh : Hy X p s m args meth c cc nL own) {x : Int32} (hd : decode cc pc = .ok (.i2l, 1))  (pc' : Nat) (hp : pc + 1 = pc') (k : Z X p l e R s m args below meth c nL Q pc' lv (.long x.toInt64 :: rest) st) : Z X p l e R s m args below meth c nL Q pc lv (.int x :: rest) st := by
  subst hp
  exact fun H locs ls hP hS hl => lv_i2l hh.1 hh.2.1 hd rfl (k H locs ls hP hS hl)
theorem x_l2i (hh : Hy X p s m args meth c cc nL own) {x : Int64} (hd : decode cc pc = .ok (.l2i, 1))  (pc' : Nat) (hp : pc + 1 = pc') (k : Z X p l e R s m args below meth c nL Q pc' lv (.int x.toInt32 :: rest) st) : Z X p l e R s m args below meth c nL Q pc lv (.long x :: rest) st := by
  subst hp
  exact fun H locs ls hP hS hl => lv_l2i hh.1 hh.2.1 hd rfl (k H locs ls hP hS hl)
theorem x_i2b (hh : Hy X p s m args meth c cc nL own) {x : Int32} (hd : decode cc pc = .ok (.i2b, 1))  (pc' : Nat) (hp : pc + 1 = pc') (k : Z X p l e R s m args below meth c nL Q pc' lv (.int x.toInt8.toInt32 :: rest) st) : Z X p l e R s m args below meth c nL Q pc lv (.int x :: rest) st := by
  subst hp
  exact fun H locs ls hP hS hl => lv_i2b hh.1 hh.2.1 hd rfl (k H locs ls hP hS hl)
theorem x_i2c (hh : Hy X p s m args meth c cc nL own) {x : Int32} (hd : decode cc pc = .ok (.i2c, 1))  (pc' : Nat) (hp : pc + 1 = pc') (k : Z X p l e R s m args below meth c nL Q pc' lv (.int (x.toUInt32 % 65536).toInt32 :: rest) st) : Z X p l e R s m args below meth c nL Q pc lv (.int x :: rest) st := by
  subst hp
  exact fun H locs ls hP hS hl => lv_i2c hh.1 hh.2.1 hd rfl (k H locs ls hP hS hl)
theorem x_dup (hh : Hy X p s m args meth c cc nL own) {va : Value} (hd : decode cc pc = .ok (.dup, 1)) (hc : va.category = 1) (pc' : Nat) (hp : pc + 1 = pc') (k : Z X p l e R s m args below meth c nL Q pc' lv (va :: va :: rest) st) : Z X p l e R s m args below meth c nL Q pc lv (va :: rest) st := by
  subst hp
  exact fun H locs ls hP hS hl => lv_dup hh.1 hh.2.1 hd hc (k H locs ls hP hS hl)
theorem x_pop (hh : Hy X p s m args meth c cc nL own) {va : Value} (hd : decode cc pc = .ok (.pop, 1)) (hc : va.category = 1) (pc' : Nat) (hp : pc + 1 = pc') (k : Z X p l e R s m args below meth c nL Q pc' lv (rest) st) : Z X p l e R s m args below meth c nL Q pc lv (va :: rest) st := by
  subst hp
  exact fun H locs ls hP hS hl => lv_pop hh.1 hh.2.1 hd hc (k H locs ls hP hS hl)
theorem x_dup2 (hh : Hy X p s m args meth c cc nL own) {va vb : Value} (hd : decode cc pc = .ok (.dup2, 1)) (hc : va.category = 1) (hc2 : vb.category = 1) (pc' : Nat) (hp : pc + 1 = pc') (k : Z X p l e R s m args below meth c nL Q pc' lv (va :: vb :: va :: vb :: rest) st) : Z X p l e R s m args below meth c nL Q pc lv (va :: vb :: rest) st := by
  subst hp
  exact fun H locs ls hP hS hl => lv_dup2_11 hh.1 hh.2.1 hd hc hc2 (k H locs ls hP hS hl)
theorem x_ldc (hh : Hy X p s m args meth c cc nL own) {i : Nat} {v : Int32} (hd : decode cc pc = .ok (.ldc i, 2)) (hw : Cond.constant own i v ∈ gtbl) (pc' : Nat) (hp : pc + 2 = pc') (k : Z X p l e R s m args below meth c nL Q pc' lv (.int v :: rest) st) : Z X p l e R s m args below meth c nL Q pc lv (rest) st := by
  subst hp
  exact fun H locs ls hP hS hl => lv_ldc hh.1 hh.2.1 hh.2.2.2.1 (hh.2.2.2.2.1 _ hw) hd  (k H locs ls hP hS hl)
theorem x_ldc_w (hh : Hy X p s m args meth c cc nL own) {i : Nat} {v : Int32} (hd : decode cc pc = .ok (.ldc_w i, 3)) (hw : Cond.constant own i v ∈ gtbl) (pc' : Nat) (hp : pc + 3 = pc') (k : Z X p l e R s m args below meth c nL Q pc' lv (.int v :: rest) st) : Z X p l e R s m args below meth c nL Q pc lv (rest) st := by
  subst hp
  exact fun H locs ls hP hS hl => lv_ldcw hh.1 hh.2.1 hh.2.2.2.1 (hh.2.2.2.2.1 _ hw) hd  (k H locs ls hP hS hl)
theorem x_ldc2_w (hh : Hy X p s m args meth c cc nL own) {i : Nat} {v : Int64} (hd : decode cc pc = .ok (.ldc2_w i, 3)) (hw : Cond.constantLong own i v ∈ gtbl) (pc' : Nat) (hp : pc + 3 = pc') (k : Z X p l e R s m args below meth c nL Q pc' lv (.long v :: rest) st) : Z X p l e R s m args below meth c nL Q pc lv (rest) st := by
  subst hp
  exact fun H locs ls hP hS hl => lv_ldc2 hh.1 hh.2.1 hh.2.2.2.1 (hh.2.2.2.2.1 _ hw) hd  (k H locs ls hP hS hl)
theorem x_if_eq (hh : Hy X p s m args meth c cc nL own) {x : Int32} {off : Int} (hd : decode cc pc = .ok (.ifCond .eq off, 3)) (tgt : Nat) (ht : (pc : Int) + off = (tgt : Int)) (pc' : Nat) (hp : pc + 3 = pc') (kt : x = 0 → Z X p l e R s m args below meth c nL Q tgt lv rest st) (kf : ¬ x = 0 → Z X p l e R s m args below meth c nL Q pc' lv rest st) : Z X p l e R s m args below meth c nL Q pc lv (.int x :: rest) st := by
  subst hp
  exact fun H locs ls hP hS hl => lv_if_eq hh.1 hh.2.1 hd ht (fun q => kt q H locs ls hP hS hl) (fun q => kf q H locs ls hP hS hl)
theorem x_icmp_eq (hh : Hy X p s m args meth c cc nL own) {x y : Int32} {off : Int} (hd : decode cc pc = .ok (.if_icmp .eq off, 3)) (tgt : Nat) (ht : (pc : Int) + off = (tgt : Int)) (pc' : Nat) (hp : pc + 3 = pc') (kt : x = y → Z X p l e R s m args below meth c nL Q tgt lv rest st) (kf : ¬ x = y → Z X p l e R s m args below meth c nL Q pc' lv rest st) : Z X p l e R s m args below meth c nL Q pc lv (.int y :: .int x :: rest) st := by
  subst hp
  exact fun H locs ls hP hS hl => lv_icmp_eq hh.1 hh.2.1 hd ht (fun q => kt q H locs ls hP hS hl) (fun q => kf q H locs ls hP hS hl)
theorem x_if_ne (hh : Hy X p s m args meth c cc nL own) {x : Int32} {off : Int} (hd : decode cc pc = .ok (.ifCond .ne off, 3)) (tgt : Nat) (ht : (pc : Int) + off = (tgt : Int)) (pc' : Nat) (hp : pc + 3 = pc') (kt : ¬ x = 0 → Z X p l e R s m args below meth c nL Q tgt lv rest st) (kf : x = 0 → Z X p l e R s m args below meth c nL Q pc' lv rest st) : Z X p l e R s m args below meth c nL Q pc lv (.int x :: rest) st := by
  subst hp
  exact fun H locs ls hP hS hl => lv_if_ne hh.1 hh.2.1 hd ht (fun q => kt q H locs ls hP hS hl) (fun q => kf q H locs ls hP hS hl)
theorem x_icmp_ne (hh : Hy X p s m args meth c cc nL own) {x y : Int32} {off : Int} (hd : decode cc pc = .ok (.if_icmp .ne off, 3)) (tgt : Nat) (ht : (pc : Int) + off = (tgt : Int)) (pc' : Nat) (hp : pc + 3 = pc') (kt : ¬ x = y → Z X p l e R s m args below meth c nL Q tgt lv rest st) (kf : x = y → Z X p l e R s m args below meth c nL Q pc' lv rest st) : Z X p l e R s m args below meth c nL Q pc lv (.int y :: .int x :: rest) st := by
  subst hp
  exact fun H locs ls hP hS hl => lv_icmp_ne hh.1 hh.2.1 hd ht (fun q => kt q H locs ls hP hS hl) (fun q => kf q H locs ls hP hS hl)
theorem x_if_lt (hh : Hy X p s m args meth c cc nL own) {x : Int32} {off : Int} (hd : decode cc pc = .ok (.ifCond .lt off, 3)) (tgt : Nat) (ht : (pc : Int) + off = (tgt : Int)) (pc' : Nat) (hp : pc + 3 = pc') (kt : x < 0 → Z X p l e R s m args below meth c nL Q tgt lv rest st) (kf : ¬ x < 0 → Z X p l e R s m args below meth c nL Q pc' lv rest st) : Z X p l e R s m args below meth c nL Q pc lv (.int x :: rest) st := by
  subst hp
  exact fun H locs ls hP hS hl => lv_if_lt hh.1 hh.2.1 hd ht (fun q => kt q H locs ls hP hS hl) (fun q => kf q H locs ls hP hS hl)
theorem x_icmp_lt (hh : Hy X p s m args meth c cc nL own) {x y : Int32} {off : Int} (hd : decode cc pc = .ok (.if_icmp .lt off, 3)) (tgt : Nat) (ht : (pc : Int) + off = (tgt : Int)) (pc' : Nat) (hp : pc + 3 = pc') (kt : x < y → Z X p l e R s m args below meth c nL Q tgt lv rest st) (kf : ¬ x < y → Z X p l e R s m args below meth c nL Q pc' lv rest st) : Z X p l e R s m args below meth c nL Q pc lv (.int y :: .int x :: rest) st := by
  subst hp
  exact fun H locs ls hP hS hl => lv_icmp_lt hh.1 hh.2.1 hd ht (fun q => kt q H locs ls hP hS hl) (fun q => kf q H locs ls hP hS hl)
theorem x_if_ge (hh : Hy X p s m args meth c cc nL own) {x : Int32} {off : Int} (hd : decode cc pc = .ok (.ifCond .ge off, 3)) (tgt : Nat) (ht : (pc : Int) + off = (tgt : Int)) (pc' : Nat) (hp : pc + 3 = pc') (kt : 0 ≤ x → Z X p l e R s m args below meth c nL Q tgt lv rest st) (kf : ¬ 0 ≤ x → Z X p l e R s m args below meth c nL Q pc' lv rest st) : Z X p l e R s m args below meth c nL Q pc lv (.int x :: rest) st := by
  subst hp
  exact fun H locs ls hP hS hl => lv_if_ge hh.1 hh.2.1 hd ht (fun q => kt q H locs ls hP hS hl) (fun q => kf q H locs ls hP hS hl)
theorem x_icmp_ge (hh : Hy X p s m args meth c cc nL own) {x y : Int32} {off : Int} (hd : decode cc pc = .ok (.if_icmp .ge off, 3)) (tgt : Nat) (ht : (pc : Int) + off = (tgt : Int)) (pc' : Nat) (hp : pc + 3 = pc') (kt : y ≤ x → Z X p l e R s m args below meth c nL Q tgt lv rest st) (kf : ¬ y ≤ x → Z X p l e R s m args below meth c nL Q pc' lv rest st) : Z X p l e R s m args below meth c nL Q pc lv (.int y :: .int x :: rest) st := by
  subst hp
  exact fun H locs ls hP hS hl => lv_icmp_ge hh.1 hh.2.1 hd ht (fun q => kt q H locs ls hP hS hl) (fun q => kf q H locs ls hP hS hl)
theorem x_if_gt (hh : Hy X p s m args meth c cc nL own) {x : Int32} {off : Int} (hd : decode cc pc = .ok (.ifCond .gt off, 3)) (tgt : Nat) (ht : (pc : Int) + off = (tgt : Int)) (pc' : Nat) (hp : pc + 3 = pc') (kt : 0 < x → Z X p l e R s m args below meth c nL Q tgt lv rest st) (kf : ¬ 0 < x → Z X p l e R s m args below meth c nL Q pc' lv rest st) : Z X p l e R s m args below meth c nL Q pc lv (.int x :: rest) st := by
  subst hp
  exact fun H locs ls hP hS hl => lv_if_gt hh.1 hh.2.1 hd ht (fun q => kt q H locs ls hP hS hl) (fun q => kf q H locs ls hP hS hl)
theorem x_icmp_gt (hh : Hy X p s m args meth c cc nL own) {x y : Int32} {off : Int} (hd : decode cc pc = .ok (.if_icmp .gt off, 3)) (tgt : Nat) (ht : (pc : Int) + off = (tgt : Int)) (pc' : Nat) (hp : pc + 3 = pc') (kt : y < x → Z X p l e R s m args below meth c nL Q tgt lv rest st) (kf : ¬ y < x → Z X p l e R s m args below meth c nL Q pc' lv rest st) : Z X p l e R s m args below meth c nL Q pc lv (.int y :: .int x :: rest) st := by
  subst hp
  exact fun H locs ls hP hS hl => lv_icmp_gt hh.1 hh.2.1 hd ht (fun q => kt q H locs ls hP hS hl) (fun q => kf q H locs ls hP hS hl)
theorem x_if_le (hh : Hy X p s m args meth c cc nL own) {x : Int32} {off : Int} (hd : decode cc pc = .ok (.ifCond .le off, 3)) (tgt : Nat) (ht : (pc : Int) + off = (tgt : Int)) (pc' : Nat) (hp : pc + 3 = pc') (kt : x ≤ 0 → Z X p l e R s m args below meth c nL Q tgt lv rest st) (kf : ¬ x ≤ 0 → Z X p l e R s m args below meth c nL Q pc' lv rest st) : Z X p l e R s m args below meth c nL Q pc lv (.int x :: rest) st := by
  subst hp
  exact fun H locs ls hP hS hl => lv_if_le hh.1 hh.2.1 hd ht (fun q => kt q H locs ls hP hS hl) (fun q => kf q H locs ls hP hS hl)
theorem x_icmp_le (hh : Hy X p s m args meth c cc nL own) {x y : Int32} {off : Int} (hd : decode cc pc = .ok (.if_icmp .le off, 3)) (tgt : Nat) (ht : (pc : Int) + off = (tgt : Int)) (pc' : Nat) (hp : pc + 3 = pc') (kt : x ≤ y → Z X p l e R s m args below meth c nL Q tgt lv rest st) (kf : ¬ x ≤ y → Z X p l e R s m args below meth c nL Q pc' lv rest st) : Z X p l e R s m args below meth c nL Q pc lv (.int y :: .int x :: rest) st := by
  subst hp
  exact fun H locs ls hP hS hl => lv_icmp_le hh.1 hh.2.1 hd ht (fun q => kt q H locs ls hP hS hl) (fun q => kf q H locs ls hP hS hl)
theorem x_goto (hh : Hy X p s m args meth c cc nL own) {off : Int} (hd : decode cc pc = .ok (.goto off, 3)) (tgt : Nat) (ht : (pc : Int) + off = (tgt : Int)) (k : Z X p l e R s m args below meth c nL Q tgt lv rest st) : Z X p l e R s m args below meth c nL Q pc lv rest st := fun H locs ls hP hS hl => lv_goto hh.1 hh.2.1 hd ht (k H locs ls hP hS hl)
theorem x_tableIn (hh : Hy X p s m args meth c cc nL own) {dflt lo hi : Int} {offs : Array Int} {len : Nat} {x : Int32} (hd : decode cc pc = .ok (.tableswitch dflt lo hi offs, len)) (h1 : ¬ x.toInt < lo) (h2 : ¬ hi < x.toInt) (off : Int) (ho : offs[(x.toInt - lo).toNat]? = some off) (tgt : Nat) (ht : (pc : Int) + off = (tgt : Int)) (k : Z X p l e R s m args below meth c nL Q tgt lv rest st) : Z X p l e R s m args below meth c nL Q pc lv (.int x :: rest) st := fun H locs ls hP hS hl => lv_tableIn hh.1 hh.2.1 hd h1 h2 ho ht (k H locs ls hP hS hl)
theorem x_tableOut (hh : Hy X p s m args meth c cc nL own) {dflt lo hi : Int} {offs : Array Int} {len : Nat} {x : Int32} (hd : decode cc pc = .ok (.tableswitch dflt lo hi offs, len)) (h : x.toInt < lo ∨ hi < x.toInt) (tgt : Nat) (ht : (pc : Int) + dflt = (tgt : Int)) (k : Z X p l e R s m args below meth c nL Q tgt lv rest st) : Z X p l e R s m args below meth c nL Q pc lv (.int x :: rest) st := fun H locs ls hP hS hl => lv_tableOut hh.1 hh.2.1 hd h ht (k H locs ls hP hS hl)
theorem x_sub {lv' : List (Nat × Value)} (js : List Nat) (h : lv_pick lv js = lv') (k : Z X p l e R s m args below meth c nL Q pc lv' rest st) : Z X p l e R s m args below meth c nL Q pc lv rest st := fun H locs ls hP hS hl => k H locs ls hP hS (lv_sub hl js h)
theorem x_iaload (hh : Hy X p s m args meth c cc nL own) {id n : Nat} {i : Int32} (hd : decode cc pc = .ok (.iaload, 1)) (hs : shp[id]? = some (.inl (0, n))) (hi : vp_in i n) (pc' : Nat) (hp : pc + 1 = pc') (k : Z X p l e R s m args below meth c nL Q pc' lv (.int (st.1 id i.toNatClampNeg) :: rest) st) : Z X p l e R s m args below meth c nL Q pc lv (.int i :: .ref (X.2.1 id) :: rest) st := by
  subst hp
  exact fun H locs ls hP hS hl => va_iald hh.1 hh.2.1 hh.2.2.2.2.2.1 hP id 0 (wW_get hs) rfl hi hd (k H locs ls hP hS hl)
theorem x_baload (hh : Hy X p s m args meth c cc nL own) {id n : Nat} {i : Int32} (hd : decode cc pc = .ok (.baload, 1)) (hs : shp[id]? = some (.inl (1, n))) (hi : vp_in i n) (pc' : Nat) (hp : pc + 1 = pc') (k : Z X p l e R s m args below meth c nL Q pc' lv (.int (st.1 id i.toNatClampNeg) :: rest) st) : Z X p l e R s m args below meth c nL Q pc lv (.int i :: .ref (X.2.1 id) :: rest) st := by
  subst hp
  exact fun H locs ls hP hS hl => va_bald hh.1 hh.2.1 hh.2.2.2.2.2.1 hP id 1 (wW_get hs) rfl hi hd (k H locs ls hP hS hl)
theorem x_zaload (hh : Hy X p s m args meth c cc nL own) {id n : Nat} {i : Int32} (hd : decode cc pc = .ok (.baload, 1)) (hs : shp[id]? = some (.inl (2, n))) (hi : vp_in i n) (pc' : Nat) (hp : pc + 1 = pc') (k : Z X p l e R s m args below meth c nL Q pc' lv (.int (st.1 id i.toNatClampNeg) :: rest) st) : Z X p l e R s m args below meth c nL Q pc lv (.int i :: .ref (X.2.1 id) :: rest) st := by
  subst hp
  exact fun H locs ls hP hS hl => va_zald hh.1 hh.2.1 hh.2.2.2.2.2.1 hP id 2 (wW_get hs) rfl hi hd (k H locs ls hP hS hl)
theorem x_iastore (hh : Hy X p s m args meth c cc nL own) {id n : Nat} {i x : Int32} (hd : decode cc pc = .ok (.iastore, 1)) (hs : shp[id]? = some (.inl (0, n))) (hi : vp_in i n) (pc' : Nat) (hp : pc + 1 = pc') (st1 : St) (e1 : st1 = sV st id i.toNatClampNeg x) (k : Z X p l e R s m args below meth c nL Q pc' lv rest st1) : Z X p l e R s m args below meth c nL Q pc lv (.int x :: .int i :: .ref (X.2.1 id) :: rest) st := by
  subst hp; subst e1
  exact fun H locs ls hP hS hl => va_iast hh.1 hh.2.1 hh.2.2.2.2.2.1 hP (wW_D hh.2.2.2.2.2.2.2.2.1 st) hS id 0 (wW_get hs) rfl hi hd (fun H1 locs1 hP1 _ hS1 => k H1 locs1 ls (by rw [wW_setA hs] at hP1; exact hP1) hS1 hl)
theorem x_bastore (hh : Hy X p s m args meth c cc nL own) {id n : Nat} {i x : Int32} (hd : decode cc pc = .ok (.bastore, 1)) (hs : shp[id]? = some (.inl (1, n))) (hi : vp_in i n) (pc' : Nat) (hp : pc + 1 = pc') (st1 : St) (e1 : st1 = sV st id i.toNatClampNeg (vp_nar .byte x)) (k : Z X p l e R s m args below meth c nL Q pc' lv rest st1) : Z X p l e R s m args below meth c nL Q pc lv (.int x :: .int i :: .ref (X.2.1 id) :: rest) st := by
  subst hp; subst e1
  exact fun H locs ls hP hS hl => va_bast hh.1 hh.2.1 hh.2.2.2.2.2.1 hP (wW_D hh.2.2.2.2.2.2.2.2.1 st) hS id 1 (wW_get hs) rfl hi hd (fun H1 locs1 hP1 _ hS1 => k H1 locs1 ls (by rw [wW_setA hs] at hP1; exact hP1) hS1 hl)
theorem x_zastore (hh : Hy X p s m args meth c cc nL own) {id n : Nat} {i x : Int32} (hd : decode cc pc = .ok (.bastore, 1)) (hs : shp[id]? = some (.inl (2, n))) (hi : vp_in i n) (pc' : Nat) (hp : pc + 1 = pc') (st1 : St) (e1 : st1 = sV st id i.toNatClampNeg (vp_nar .boolean x)) (k : Z X p l e R s m args below meth c nL Q pc' lv rest st1) : Z X p l e R s m args below meth c nL Q pc lv (.int x :: .int i :: .ref (X.2.1 id) :: rest) st := by
  subst hp; subst e1
  exact fun H locs ls hP hS hl => va_zast hh.1 hh.2.1 hh.2.2.2.2.2.1 hP (wW_D hh.2.2.2.2.2.2.2.2.1 st) hS id 2 (wW_get hs) rfl hi hd (fun H1 locs1 hP1 _ hS1 => k H1 locs1 ls (by rw [wW_setA hs] at hP1; exact hP1) hS1 hl)
theorem x_alen (hh : Hy X p s m args meth c cc nL own) {id n t : Nat} (hd : decode cc pc = .ok (.arraylength, 1)) (hs : shp[id]? = some (.inl (t, n))) (ht : ∃ ty, (tyc X)[t]? = some (X.2.2.1 t, ty)) (v : Int32) (hv : Int32.ofNat n = v) (pc' : Nat) (hp : pc + 1 = pc') (k : Z X p l e R s m args below meth c nL Q pc' lv (.int v :: rest) st) : Z X p l e R s m args below meth c nL Q pc lv (.ref (X.2.1 id) :: rest) st := by
  subst hp
  obtain ⟨ty, ht⟩ := ht
  exact fun H locs ls hP hS hl => va_alen hh.1 hh.2.1 hh.2.2.2.2.2.1 hP id t (wW_get hs) ht hv hd (k H locs ls hP hS hl)
theorem x_aaload (hh : Hy X p s m args meth c cc nL own) {id r : Nat} {ids : List Nat} {i : Int32} (hd : decode cc pc = .ok (.aaload, 1)) (hs : shp[id]? = some (.inr (.inl ids))) (hi : vp_in i ids.length) (hr : ids[i.toNatClampNeg]? = some r) (pc' : Nat) (hp : pc + 1 = pc') (k : Z X p l e R s m args below meth c nL Q pc' lv (.ref (X.2.1 r) :: rest) st) : Z X p l e R s m args below meth c nL Q pc lv (.int i :: .ref (X.2.1 id) :: rest) st := by
  subst hp
  refine fun H locs ls hP hS hl => va_aldq (C := "LowHeads$Scene") (f := fun i => (ids[i]?).map X.2.1) hh.1 hh.2.1 hh.2.2.2.2.2.1 hP id 3 (wW_get hs) rfl hi hd ?_
  rw [hr]
  exact k H locs ls hP hS hl
/-- a class of the world: its number, fields, their types -/
def Cl (ci : Nat) (C : String) (T : u_T) (N : Nat) (ty : Nat → FieldType) : Prop := classes[ci]? = some (C, T, N) ∧ (∀ w ∈ u_ws C T N, w ∈ gtbl) ∧ (∀ k, k < N → parseFieldDescriptor (T k).2.2.1 = some (ty k)) ∧ (∀ a, a < N → ∀ b, b < N → a ≠ b → (T a).2.1 ≠ (T b).2.1)
theorem x_get (hh : Hy X p s m args meth c cc nL own) {id ci N idx : Nat} {C : String} {T : u_T} {ty : Nat → FieldType} {fk : List (Option (Option Nat))} {f : Option (Option Nat)} (hc : Cl ci C T N ty) (hd : decode cc pc = .ok (.getfield idx, 3)) (hs : shp[id]? = some (.inr (.inr (ci, fk)))) (k : Nat) (hf : fk[k]? = some f) (hk : k < N) (hw : Cond.fieldLink own idx (T k).1 (T k).2.1 (T k).2.2.1 ∈ gtbl) (pc' : Nat) (hp : pc + 3 = pc') (kk : Z X p l e R s m args below meth c nL Q pc' lv (fv X st id k f :: rest) st) : Z X p l e R s m args below meth c nL Q pc lv (.ref (X.2.1 id) :: rest) st := by
  subst hp
  exact fun H locs ls hP hS hl => va_get (v := fv X st id k f) hh.1 hh.2.1 hh.2.2.2.2.1 hc.2.1 hh.2.2.2.1 hh.2.2.2.2.2.1 hP id (wW_get hs) hc.1 k hk (hh.2.2.2.2.1 _ hw) (fun _ h9 => h9) (by rw [List.getElem?_mapIdx, hf]; rfl) hd (kk H locs ls hP hS hl)
theorem x_putI (hh : Hy X p s m args meth c cc nL own) {id ci N idx : Nat} {C : String} {T : u_T} {ty : Nat → FieldType} {fk : List (Option (Option Nat))} {x : Int32} (hc : Cl ci C T N ty) (hd : decode cc pc = .ok (.putfield idx, 3)) (hs : shp[id]? = some (.inr (.inr (ci, fk)))) (k : Nat) (hf : fk[k]? = some none) (hk : k < N) (hw : Cond.fieldLink own idx (T k).1 (T k).2.1 (T k).2.2.1 ∈ gtbl) (hfin : (T k).2.2.2 = false) (hn : narrow (ty k) (.int x) = .int x) (hfit : fits (ty k) (.int x) = true) (pc' : Nat) (hp : pc + 3 = pc') (st1 : St) (e1 : st1 = sV st id k x) (kk : Z X p l e R s m args below meth c nL Q pc' lv rest st1) : Z X p l e R s m args below meth c nL Q pc lv (.int x :: .ref (X.2.1 id) :: rest) st := by
  subst hp; subst e1
  exact fun H locs ls hP hS hl => va_put (v := .int x) hh.1 hh.2.1 hh.2.2.2.2.1 hc.2.1 ty hc.2.2.1 hc.2.2.2 hh.2.2.2.1 hh.2.2.2.2.2.1 hP (wW_D hh.2.2.2.2.2.2.2.2.1 st) hS id (wW_get hs) hc.1 k hk (hh.2.2.2.2.1 _ hw) (fun _ h9 => h9) hfin (hc.2.2.1 k hk) hn hfit (by rw [List.length_mapIdx]; exact (List.getElem?_eq_some_iff.mp hf).1) hd (fun H1 locs1 hP1 _ hS1 => kk H1 locs1 ls (by rw [wW_setI hs hf] at hP1; exact hP1) hS1 hl)
theorem x_putJ (hh : Hy X p s m args meth c cc nL own) {id ci N idx : Nat} {C : String} {T : u_T} {ty : Nat → FieldType} {fk : List (Option (Option Nat))} {x : Int64} (hc : Cl ci C T N ty) (hd : decode cc pc = .ok (.putfield idx, 3)) (hs : shp[id]? = some (.inr (.inr (ci, fk)))) (k : Nat) (hf : fk[k]? = some (some none)) (hk : k < N) (hw : Cond.fieldLink own idx (T k).1 (T k).2.1 (T k).2.2.1 ∈ gtbl) (hfin : (T k).2.2.2 = false) (hn : narrow (ty k) (.long x) = .long x) (hfit : fits (ty k) (.long x) = true) (pc' : Nat) (hp : pc + 3 = pc') (st1 : St) (e1 : st1 = sJ st id k x) (kk : Z X p l e R s m args below meth c nL Q pc' lv rest st1) : Z X p l e R s m args below meth c nL Q pc lv (.long x :: .ref (X.2.1 id) :: rest) st := by
  subst hp; subst e1
  exact fun H locs ls hP hS hl => va_put (v := .long x) hh.1 hh.2.1 hh.2.2.2.2.1 hc.2.1 ty hc.2.2.1 hc.2.2.2 hh.2.2.2.1 hh.2.2.2.2.2.1 hP (wW_D hh.2.2.2.2.2.2.2.2.1 st) hS id (wW_get hs) hc.1 k hk (hh.2.2.2.2.1 _ hw) (fun _ h9 => h9) hfin (hc.2.2.1 k hk) hn hfit (by rw [List.length_mapIdx]; exact (List.getElem?_eq_some_iff.mp hf).1) hd (fun H1 locs1 hP1 _ hS1 => kk H1 locs1 ls (by rw [wW_setL hs hf] at hP1; exact hP1) hS1 hl)
/-! returns -/
theorem x_iret (hh : Hy X p s m args meth c cc nL own) {v : Int32} (hr : meth.sig.returnType = some .int) (hd : decode cc pc = .ok (.ireturn, 1)) : Z X p l e R s m args below meth c nL (MQ below (Qf X (some (.int v)) st) args s 0 0 (cA X)) pc lv [.int v] st :=
  fun H locs ls hP hS hl => W.iret hh.1 hh.2.1 hr (fun t ht hW => ⟨⟨rfl, by rw [ht]; exact hP⟩, hS.F ht⟩) hS.2.2 hd hh.2.2.2.2.2.2.2.2.2
theorem x_zret (hh : Hy X p s m args meth c cc nL own) {v : Int32} {ty : FieldType} (hr : meth.sig.returnType = some ty) (hn : narrow ty (.int v) = .int v) (hd : decode cc pc = .ok (.ireturn, 1)) : Z X p l e R s m args below meth c nL (MQ below (Qf X (some (.int v)) st) args s 0 0 (cA X)) pc lv [.int v] st :=
  fun H locs ls hP hS hl => W.zret hh.1 hh.2.1 hr hn (fun t ht hW => ⟨⟨rfl, by rw [ht]; exact hP⟩, hS.F ht⟩) hS.2.2 hd hh.2.2.2.2.2.2.2.2.2
theorem x_lret (hh : Hy X p s m args meth c cc nL own) {v : Int64} (hr : meth.sig.returnType = some .long) (hd : decode cc pc = .ok (.lreturn, 1)) : Z X p l e R s m args below meth c nL (MQ below (Qf X (some (.long v)) st) args s 0 0 (cA X)) pc lv [.long v] st :=
  fun H locs ls hP hS hl => W.lret hh.1 hh.2.1 hr (fun t ht hW => ⟨⟨rfl, by rw [ht]; exact hP⟩, hS.F ht⟩) hS.2.2 hd hh.2.2.2.2.2.2.2.2.2
theorem x_vret (hh : Hy X p s m args meth c cc nL own) (hr : meth.sig.returnType = none) (hd : decode cc pc = .ok (.return_, 1)) : Z X p l e R s m args below meth c nL (MQ below (Qf X none st) args s 0 0 (cA X)) pc lv [] st :=
  fun H locs ls hP hS hl => W.vret hh.1 hh.2.1 hr (fun t ht hW => ⟨⟨rfl, by rw [ht]; exact hP⟩, hS.F ht⟩) hS.2.2 hd hh.2.2.2.2.2.2.2.2.2
/-! calls -/
theorem x_back {H : Heap} {locs : List Loc} {ls : Array Slot} {stk : List Value} {a : Array Value} {v : Option Value} {st' : St} (hr : va_Run p l e R s m args below meth c H locs 0 0 0 0 (F0 m pc ls stk) rest (Qf X v st' a) (cA X)) (hS : va_S (cA X) s.heap H locs) (hl : lv_has ls nL lv) (k : Z X p l e R s m args below meth c nL Q (pc + 3) lv (v.toList ++ rest) st') : W p l e R s m args below meth c H locs 0 0 Q (F0 m pc ls stk) := by
  intro T hT X0
  obtain ⟨v1, st₀, t, T', L, h0, X', hL, e1, e2, ⟨⟨hv, hP1⟩, hz, hk⟩, go⟩ := hr T hT X0
  cases hv
  rw [h0] at hz hk
  obtain ⟨t2, a1, b1⟩ := k T'.heap (locs ++ L) ls (by rw [e1]; exact hP1) ⟨Nat.le_trans hS.1 (by rw [e1]; exact hz), fun q h1 h2 => by rw [e1, hk q (Nat.lt_of_lt_of_le h1 hS.1) h2]; exact hS.2.1 q h1 h2, fun q hq => by
      rcases List.mem_append.mp hq with h | h
      · exact hS.2.2 q h
      · exact hL q h⟩ hl T' rfl X'
  exact ⟨t2, go t2 a1, b1⟩
theorem x_pre (hh : Hy X p s m args meth c cc nL own) {H : Heap} {locs : List Loc} (as : List Value) (hP : va_P X.1 classes (wW X st) H) (hS : va_S (cA X) s.heap H locs) : ∀ U : State, U.heap = H → s.WarmedH U.vm → va_Pc as (Wd X st) as.toArray U := by
  intro U hU hW
  obtain ⟨-, -, -, -, -, hK, hh0, hE, hX, -⟩ := hh
  exact ⟨rfl, by rw [hU]; exact hP, va_K.moved hW.alike hK, by rw [hU]; exact Nat.le_trans hh0 hS.1, cE_warm hW (fun q h1 h2 => by rw [hU]; exact hS.2.1 q h1 h2) hE⟩
/-- an instance method that may be called: its code, class and number of arguments -/
def Mi (y : MethodName) (bytes : ByteArray) (maxL : Nat) (ret : Option FieldType) (n ci : Nat) : Prop := Cond.instanceMethod y ∈ gtbl ∧ Cond.selects y.cls y y ∈ gtbl ∧ Cond.initialized y.cls ∈ gtbl ∧ Cond.code y bytes maxL ret ∈ gtbl ∧ (y.cls ≠ "java/lang/invoke/MethodHandle" ∧ y.cls ≠ "java/lang/invoke/VarHandle" ∧ (parseMethodDescriptor y.desc).map (fun d => d.parameters.length) = some n) ∧ classes[ci]?.map (fun r => r.1) = some y.cls
theorem x_callV (hh : Hy X p s m args meth c cc nL own) {id ci n k idx maxL : Nat} {y : MethodName} {bytes : ByteArray} {ret : Option FieldType} {fk : List (Option (Option Nat))} {v : Option Value} {st' : St} {stk : List Value} (hM : Mi y bytes maxL ret n ci) (As : List Value) (hd : decode cc pc = .ok (.invokevirtual idx, 3)) (hs : shp[id]? = some (.inr (.inr (ci, fk)))) (hw : Cond.methodLink own idx y ∈ gtbl) (hC : Ct l X k y (.code y bytes maxL ret) (.ref (X.2.1 id) :: As) st v st') (hst : As.reverse ++ .ref (X.2.1 id) :: rest = stk) (hn : As.length = n) (hR : k + 1 ≤ R.frames ∧ 8 + (maxL + 11) + 40 * k ≤ R.locals) (hrest : (rest.map fun v => v.category).sum ≤ 8) (pc' : Nat) (hp : pc + 3 = pc') (stk' : List Value) (hst' : v.toList ++ rest = stk') (kk : Z X p l e R s m args below meth c nL Q pc' lv stk' st') : Z X p l e R s m args below meth c nL Q pc lv stk st := by
  subst hp; subst hst; subst hst'
  intro H locs ls hP hS hl
  obtain ⟨m1, m2, m3, m4, m5, m6⟩ := hM
  have hts := hh.2.2.2.2.1
  obtain ⟨r, hr1, hr2⟩ : ∃ r : vw_C, classes[ci]? = some r ∧ r.1 = y.cls := by
    cases hq : classes[ci]? with
    | none => rw [hq] at m6; cases m6
    | some r => rw [hq] at m6; exact ⟨r, rfl, Option.some.inj m6⟩
  have hrec := va_recv hh.2.2.2.2.2.1 hP hr1 (wW_get (X := X) (st := st) hs)
  rw [hr2] at hrec
  refine x_back (va_runV (C := y.cls) (Ts := gtbl) (cc := cc) (nL := nL) (As := As) (rest := rest) (n := n) ⟨hh.1, hh.2.1, hh.2.2.1, hh.2.2.2.1, hts⟩ hC ⟨callB_of n hts (gt_goodIn m4 (fun _ h => h)) rfl rfl rfl (hts _ m3) (hts _ hw) m5 hR, hts _ m1, hts _ m2⟩ ⟨Wd_blind hh.2.2.2.2.2.2.2.2.1 _ _, hrec, x_pre hh _ hP hS⟩ rfl hn hl.1 rfl (lv_room hrest) hd ⟨Nat.zero_le _, Nat.zero_le _⟩) hS hl kk
def Ms (y : MethodName) (bytes : ByteArray) (maxL : Nat) (ret : Option FieldType) (n : Nat) : Prop := Cond.static y ∈ gtbl ∧ Cond.initialized y.cls ∈ gtbl ∧ Cond.code y bytes maxL ret ∈ gtbl ∧ (y.cls ≠ "java/lang/invoke/MethodHandle" ∧ y.cls ≠ "java/lang/invoke/VarHandle" ∧ (parseMethodDescriptor y.desc).map (fun d => d.parameters.length) = some n)
theorem x_callS (hh : Hy X p s m args meth c cc nL own) {n k idx maxL : Nat} {y : MethodName} {bytes : ByteArray} {ret : Option FieldType} {v : Option Value} {st' : St} {stk : List Value} (hM : Ms y bytes maxL ret n) (As : List Value) (hd : decode cc pc = .ok (.invokestatic idx, 3)) (hw : Cond.methodLink own idx y ∈ gtbl) (hC : Ct l X k y (.code y bytes maxL ret) As st v st') (hst : As.reverse ++ rest = stk) (hn : As.length = n) (hR : k + 1 ≤ R.frames ∧ 8 + (maxL + 11) + 40 * k ≤ R.locals) (hrest : (rest.map fun v => v.category).sum ≤ 8) (pc' : Nat) (hp : pc + 3 = pc') (stk' : List Value) (hst' : v.toList ++ rest = stk') (kk : Z X p l e R s m args below meth c nL Q pc' lv stk' st') : Z X p l e R s m args below meth c nL Q pc lv stk st := by
  subst hp; subst hst; subst hst'
  intro H locs ls hP hS hl
  obtain ⟨m1, m3, m4, m5⟩ := hM
  have hts := hh.2.2.2.2.1
  refine x_back (va_runS (Ts := gtbl) (cc := cc) (nL := nL) (As := As) (rest := rest) (n := n) ⟨hh.1, hh.2.1, hh.2.2.1, hh.2.2.2.1, hts⟩ hC ⟨callB_of n hts (gt_goodIn m4 (fun _ h => h)) rfl rfl rfl (hts _ m3) (hts _ hw) m5 hR, hts _ m1⟩ ⟨Wd_blind hh.2.2.2.2.2.2.2.2.1 _ _, x_pre hh _ hP hS⟩ rfl hn hl.1 rfl (lv_room hrest) hd ⟨Nat.zero_le _, Nat.zero_le _⟩) hS hl kk
theorem x_getI (hh : Hy X p s m args meth c cc nL own) {id ci N idx : Nat} {C : String} {T : u_T} {ty : Nat → FieldType} {fk : List (Option (Option Nat))} (hc : Cl ci C T N ty) (hd : decode cc pc = .ok (.getfield idx, 3)) (hs : shp[id]? = some (.inr (.inr (ci, fk)))) (k : Nat) (hf : fk[k]? = some none) (hk : k < N) (hw : Cond.fieldLink own idx (T k).1 (T k).2.1 (T k).2.2.1 ∈ gtbl) (pc' : Nat) (hp : pc + 3 = pc') (kk : Z X p l e R s m args below meth c nL Q pc' lv (.int (st.1 id k) :: rest) st) : Z X p l e R s m args below meth c nL Q pc lv (.ref (X.2.1 id) :: rest) st := x_get hh hc hd hs k hf hk hw pc' hp kk
theorem x_getJ (hh : Hy X p s m args meth c cc nL own) {id ci N idx : Nat} {C : String} {T : u_T} {ty : Nat → FieldType} {fk : List (Option (Option Nat))} (hc : Cl ci C T N ty) (hd : decode cc pc = .ok (.getfield idx, 3)) (hs : shp[id]? = some (.inr (.inr (ci, fk)))) (k : Nat) (hf : fk[k]? = some (some none)) (hk : k < N) (hw : Cond.fieldLink own idx (T k).1 (T k).2.1 (T k).2.2.1 ∈ gtbl) (pc' : Nat) (hp : pc + 3 = pc') (kk : Z X p l e R s m args below meth c nL Q pc' lv (.long (st.2 id k) :: rest) st) : Z X p l e R s m args below meth c nL Q pc lv (.ref (X.2.1 id) :: rest) st := x_get hh hc hd hs k hf hk hw pc' hp kk
theorem x_getR (hh : Hy X p s m args meth c cc nL own) {id ci N idx : Nat} {C : String} {T : u_T} {ty : Nat → FieldType} {fk : List (Option (Option Nat))} (hc : Cl ci C T N ty) (hd : decode cc pc = .ok (.getfield idx, 3)) (hs : shp[id]? = some (.inr (.inr (ci, fk)))) (k : Nat) (r : Nat) (hf : fk[k]? = some (some (some r))) (hk : k < N) (hw : Cond.fieldLink own idx (T k).1 (T k).2.1 (T k).2.2.1 ∈ gtbl) (pc' : Nat) (hp : pc + 3 = pc') (kk : Z X p l e R s m args below meth c nL Q pc' lv (.ref (X.2.1 r) :: rest) st) : Z X p l e R s m args below meth c nL Q pc lv (.ref (X.2.1 id) :: rest) st := x_get hh hc hd hs k hf hk hw pc' hp kk
theorem x_nmi {x x' : Int32} (ee : x' = x) (k : Z X p l e R s m args below meth c nL Q pc lv (.int x' :: rest) st) : Z X p l e R s m args below meth c nL Q pc lv (.int x :: rest) st := by rw [← ee]; exact k
theorem x_nml {x x' : Int64} (ee : x' = x) (k : Z X p l e R s m args below meth c nL Q pc lv (.long x' :: rest) st) : Z X p l e R s m args below meth c nL Q pc lv (.long x :: rest) st := by rw [← ee]; exact k
theorem x_ldcS (hh : Hy X p s m args meth c cc nL own) (hown : own = RX5) {i w : Nat} {tx : String} (hd : decode cc pc = .ok (.ldc i, 2)) (hw : (i, tx, w) ∈ strRef) (pc' : Nat) (hp : pc + 2 = pc') (k : Z X p l e R s m args below meth c nL Q pc' lv (.ref (X.2.2.2.2.1 w) :: rest) st) : Z X p l e R s m args below meth c nL Q pc lv rest st := by
  subst hp; subst hown
  exact fun H locs ls hP hS hl => va_ldcS hh.1 hh.2.1 hh.2.2.2.1 (hh.2.2.2.2.2.2.2.1.2.2.1 _ hw) hd (k H locs ls hP hS hl)
theorem x_callSN (hh : Hy X p s m args meth c cc nL own) {n k idx maxL : Nat} {bytes : ByteArray} {ret : Option FieldType} {v : Option Value} {st' : St} {stk : List Value} (hM : Ms yX7_copyRow bytes maxL ret n) (As : List Value) (hd : decode cc pc = .ok (.invokestatic idx, 3)) (hw : (own, idx) ∈ cNl) (hC : Ct l X k yX7_copyRow (.code yX7_copyRow bytes maxL ret) As st v st') (hst : As.reverse ++ rest = stk) (hn : As.length = n) (hR : k + 1 ≤ R.frames ∧ 8 + (maxL + 11) + 40 * k ≤ R.locals) (hrest : (rest.map fun v => v.category).sum ≤ 8) (pc' : Nat) (hp : pc + 3 = pc') (stk' : List Value) (hst' : v.toList ++ rest = stk') (kk : Z X p l e R s m args below meth c nL Q pc' lv stk' st') : Z X p l e R s m args below meth c nL Q pc lv stk st := by
  subst hp; subst hst; subst hst'
  intro H locs ls hP hS hl
  obtain ⟨m1, m3, m4, m5⟩ := hM
  have hts := hh.2.2.2.2.1
  refine x_back (va_runSN (host := RX7) (Ts := gtbl) (cc := cc) (nL := nL) (As := As) (rest := rest) (n := n) ⟨hh.1, hh.2.1, hh.2.2.1, hh.2.2.2.1, hts⟩ hC ⟨va_cnB n hts (gt_goodIn m4 (fun _ h => h)) rfl rfl rfl (hh.2.2.2.2.2.2.2.1.1 _ hw) (hts _ m3) m5 hR, hts _ m1, trivial⟩ ⟨Wd_blind hh.2.2.2.2.2.2.2.2.1 _ _, x_pre hh _ hP hS⟩ rfl hn hl.1 rfl (lv_room hrest) hd ⟨Nat.zero_le _, Nat.zero_le _⟩) hS hl kk
theorem x_copyi (hh : Hy X p s m args meth c cc nL own) {a b n : Nat} {idx : Nat} {x : Int32} (hd : decode cc pc = .ok (.invokestatic idx, 3)) (hw : Cond.methodLink own idx arraycopyName ∈ gtbl) (hnat : Cond.native arraycopyName ∈ gtbl) (hstat : Cond.static arraycopyName ∈ gtbl) (hini : Cond.initialized "java/lang/System" ∈ gtbl) (ha : shp[a]? = some (.inl (0, n))) (hb : shp[b]? = some (.inl (0, n))) (hx : x = Int32.ofNat n) (hn : n < 2 ^ 31) (hR : 1 ≤ R.frames ∧ (rest.map fun v => v.category).sum + (nativeFrameWords "java/lang/System" "arraycopy" 5 + 11) ≤ R.locals) (pc' : Nat) (hp : pc + 3 = pc') (st1 : St) (e1 : st1 = sA st b (va_cpy (st.1 a) (st.1 b) 0 0 n)) (k : Z X p l e R s m args below meth c nL Q pc' lv rest st1) : Z X p l e R s m args below meth c nL Q pc lv (.int x :: .int 0 :: .ref (X.2.1 b) :: .int 0 :: .ref (X.2.1 a) :: rest) st := by
  subst hp; subst e1
  have hx2 : x.toNatClampNeg = n := by rw [hx]; exact nI_clamp hn
  have hts := hh.2.2.2.2.1
  intro H locs ls hP hS hl
  refine va_copyi (ty := .int) hh.1 hh.2.1 (hh.2.2.1.trans hl.1.symm) hh.2.2.2.1 (hts _ hw) (hts _ hnat) (hts _ hstat) (hts _ hini) hh.2.2.2.2.2.1 hP (wW_D hh.2.2.2.2.2.2.2.2.1 st) hS a b 0 0 (wW_get ha) (wW_get hb) rfl rfl rfl (by decide) (by decide) (by rw [hx]; exact nI_pos hn) (by rw [hx2]; simp [sb_cl0]) (by rw [hx2]; simp [sb_cl0]) (fun i _ => rfl) hR.1 hR.2 hd ?_
  intro H1 locs1 hP1 _ hS1
  rw [hx2, sb_cl0, wW_setA hb] at hP1
  exact k H1 locs1 ls hP1 hS1 hl
theorem x_mmax (hh : Hy X p s m args meth c cc nL own) {idx : Nat} {x y : Int32} (hd : decode cc pc = .ok (.invokestatic idx, 3)) (hw : Cond.methodLink own idx Lib.Math.max.name ∈ gtbl) (hst : Cond.static Lib.Math.max.name ∈ gtbl) (hi : Cond.initialized "java/lang/Math" ∈ gtbl) (hcd : Cond.code Lib.Math.max.name Lib.Math.max.code 2 (some .int) ∈ gtbl) (hR : 1 ≤ R.frames ∧ (rest.map fun v => v.category).sum + 13 ≤ R.locals) (pc' : Nat) (hp : pc + 3 = pc') (k : Z X p l e R s m args below meth c nL Q pc' lv (.int (imx x y) :: rest) st) : Z X p l e R s m args below meth c nL Q pc lv (.int y :: .int x :: rest) st := by
  subst hp
  exact fun H locs ls hP hS hl => va_mmax hh.1 hh.2.1 (hh.2.2.1.trans hl.1.symm) hh.2.2.2.1 (hh.2.2.2.2.1 _ hw) (hh.2.2.2.2.1 _ hst) (hh.2.2.2.2.1 _ hi) (hh.2.2.2.2.1 _ hcd) hR.1 hR.2 (Nat.zero_le _) (Nat.zero_le _) hd (k H locs ls hP hS hl)
theorem x_mmin (hh : Hy X p s m args meth c cc nL own) {idx : Nat} {x y : Int32} (hd : decode cc pc = .ok (.invokestatic idx, 3)) (hw : Cond.methodLink own idx Lib.Math.min.name ∈ gtbl) (hst : Cond.static Lib.Math.min.name ∈ gtbl) (hi : Cond.initialized "java/lang/Math" ∈ gtbl) (hcd : Cond.code Lib.Math.min.name Lib.Math.min.code 2 (some .int) ∈ gtbl) (hR : 1 ≤ R.frames ∧ (rest.map fun v => v.category).sum + 13 ≤ R.locals) (pc' : Nat) (hp : pc + 3 = pc') (k : Z X p l e R s m args below meth c nL Q pc' lv (.int (imn x y) :: rest) st) : Z X p l e R s m args below meth c nL Q pc lv (.int y :: .int x :: rest) st := by
  subst hp
  exact fun H locs ls hP hS hl => va_mmin hh.1 hh.2.1 (hh.2.2.1.trans hl.1.symm) hh.2.2.2.1 (hh.2.2.2.2.1 _ hw) (hh.2.2.2.2.1 _ hst) (hh.2.2.2.2.1 _ hi) (hh.2.2.2.2.1 _ hcd) hR.1 hR.2 (Nat.zero_le _) (Nat.zero_le _) hd (k H locs ls hP hS hl)
end X
theorem cl_0 : Cl 0 RX0 TX0 4 tyX0 := ⟨rfl, uws_0, tyX0_ok, nmX0⟩
theorem cl_1 : Cl 1 RX1 TX1 2 tyX1 := ⟨rfl, uws_1, tyX1_ok, nmX1⟩
theorem cl_2 : Cl 2 RX2 TX2 7 tyX2 := ⟨rfl, uws_2, tyX2_ok, nmX2⟩
theorem cl_3 : Cl 3 RX3 TX3 10 tyX3 := ⟨rfl, uws_3, tyX3_ok, nmX3⟩
theorem cl_4 : Cl 4 RX4 TX4 11 tyX4 := ⟨rfl, uws_4, tyX4_ok, nmX4⟩
theorem cl_5 : Cl 5 RX5 TX5 8 tyX5 := ⟨rfl, uws_5, tyX5_ok, nmX5⟩
theorem cl_6 : Cl 6 RX6 TX6 7 tyX6 := ⟨rfl, uws_6, tyX6_ok, nmX6⟩
theorem cl_7 : Cl 7 RX7 TX7 12 tyX7 := ⟨rfl, uws_7, tyX7_ok, nmX7⟩
theorem cl_8 : Cl 8 RX8 TX8 51 tyX8 := ⟨rfl, uws_8, tyX8_ok, nmX8⟩
end
section
/-! helpers of the functional texts -/
def fN : Nat := 1000000
def gi {α : Type} (i : Int32) (n : Nat) (a : Option α) : Option α := if 0 ≤ i.toInt ∧ i.toInt < (n : Int) then a else none
def gz {α : Type} (y : Int32) (a : Option α) : Option α := if y = 0 then none else a
def gb {α : Type} (y : Int32) (a : Option α) : Option α := if y = 0 ∨ y = 1 then a else none
def bs {α β : Type} (a : β) (f : β → Option α) : Option α := f a
theorem gi_some {α : Type} {i : Int32} {n : Nat} {a : Option α} {r : α} (h : gi i n a = some r) : vp_in i n ∧ a = some r := by
  unfold gi at h
  by_cases c : 0 ≤ i.toInt ∧ i.toInt < (n : Int)
  · rw [if_pos c] at h; exact ⟨vp_in_iff.mpr c, h⟩
  · rw [if_neg c] at h; cases h
theorem gz_some {α : Type} {y : Int32} {a : Option α} {r : α} (h : gz y a = some r) : ¬ y = 0 ∧ a = some r := by
  unfold gz at h
  by_cases c : y = 0
  · rw [if_pos c] at h; cases h
  · rw [if_neg c] at h; exact ⟨c, h⟩
theorem gb_some {α : Type} {y : Int32} {a : Option α} {r : α} (h : gb y a = some r) : (y = 0 ∨ y = 1) ∧ a = some r := by
  unfold gb at h
  by_cases c : y = 0 ∨ y = 1
  · rw [if_pos c] at h; exact ⟨c, h⟩
  · rw [if_neg c] at h; cases h
theorem bs_some {α β : Type} {a : β} {f : β → Option α} {r : α} (h : bs a f = some r) : ∃ x, x = a ∧ f x = some r := ⟨a, rfl, h⟩
theorem b_some {α β : Type} {o : Option β} {f : β → Option α} {r : α} (h : o.bind f = some r) : ∃ q, o = some q ∧ f q = some r := by
  cases o with
  | none => cases h
  | some q => exact ⟨q, rfl, h⟩
theorem t_pos {α : Type} {c : Prop} [Decidable c] {a b : Option α} {r : α} (hc : c) (h : (if c then a else b) = some r) : a = some r := by rw [if_pos hc] at h; exact h
theorem t_neg {α : Type} {c : Prop} [Decidable c] {a b : Option α} {r : α} (hc : ¬ c) (h : (if c then a else b) = some r) : b = some r := by rw [if_neg hc] at h; exact h
theorem nb_n {v : Int32} (h : v = 0 ∨ v = 1) : narrow .boolean (.int v) = .int v := by rcases h with rfl | rfl <;> rfl
theorem nb_f {v : Int32} (h : v = 0 ∨ v = 1) : fits .boolean (.int v) = true := by rcases h with rfl | rfl <;> rfl
/-- a scene, a house, an evening among the cells -/
def Sc (a : Nat) : Prop := shp[a]? = some (.inr (.inr (6, [some (some (a + 1)), some (some (a + 2)), some (some (a + 3)), some (some (a + 4)), some (some (a + 5)), none, none]))) ∧ shp[a + 1]? = some (.inl (0, 6)) ∧ shp[a + 2]? = some (.inl (0, 6)) ∧ shp[a + 3]? = some (.inl (0, 6)) ∧ shp[a + 4]? = some (.inl (0, 6)) ∧ shp[a + 5]? = some (.inl (0, 6))
def Ho (a : Nat) : Prop := shp[a]? = some (.inr (.inr (3, [none, none, none, some (some (a + 1)), some (some (a + 2)), some (some (a + 3)), some (some (a + 4)), some (some (a + 5)), some (some (a + 6)), some (some (a + 7))]))) ∧ shp[a + 1]? = some (.inl (0, 3)) ∧ shp[a + 2]? = some (.inl (0, 18)) ∧ shp[a + 3]? = some (.inl (0, 6)) ∧ shp[a + 4]? = some (.inl (0, 6)) ∧ shp[a + 5]? = some (.inl (0, 6)) ∧ shp[a + 6]? = some (.inl (0, 6)) ∧ shp[a + 7]? = some (.inl (0, 36))
def Ev (a : Nat) : Prop := shp[a + 6]? = some (.inr (.inr (1, [some (some 1), some (some a)]))) ∧ Sc a
theorem sc_9 : Sc 9 := ⟨rfl, rfl, rfl, rfl, rfl, rfl⟩
theorem sc_16 : Sc 16 := ⟨rfl, rfl, rfl, rfl, rfl, rfl⟩
theorem sc_46 : Sc 46 := ⟨rfl, rfl, rfl, rfl, rfl, rfl⟩
theorem sc_52 : Sc 52 := ⟨rfl, rfl, rfl, rfl, rfl, rfl⟩
theorem ho_1 : Ho 1 := ⟨rfl, rfl, rfl, rfl, rfl, rfl, rfl, rfl⟩
theorem ho_24 : Ho 24 := ⟨rfl, rfl, rfl, rfl, rfl, rfl, rfl, rfl⟩
theorem ev_9 : Ev 9 := ⟨rfl, sc_9⟩
theorem ev_16 : Ev 16 := ⟨rfl, sc_16⟩
theorem Z.at0 {X : Cx} {p : Program} {l : Launch} {e : Env} {R : Room} {s : State} {m : MethodId} {args : Array Value} {below : List Frame} {meth : Method} {c : Code} {nL : Nat} {Q : State → Prop} {pc : Nat} {lv lv' : List (Nat × Value)} {stk : List Value} {st : St} (h : lv = lv') (k : Z X p l e R s m args below meth c nL Q pc lv' stk st) : Z X p l e R s m args below meth c nL Q pc lv stk st := by rw [h]; exact k
def imgId (i : Int32) : Nat := if i = 0 then 46 else 52
theorem img_2 {i : Int32} (h : vp_in i 2) : i = 0 ∨ i = 1 := by
  obtain ⟨j, hj, rfl⟩ := vp_in_of h (by decide)
  rcases (show j = 0 ∨ j = 1 by omega) with rfl | rfl
  · exact Or.inl rfl
  · exact Or.inr rfl
theorem img_r {i : Int32} (h : vp_in i 2) : ([46, 52] : List Nat)[i.toNatClampNeg]? = some (imgId i) := by
  rcases img_2 h with rfl | rfl <;> rfl
theorem img_sc {i : Int32} (h : vp_in i 2) : Sc (imgId i) := by
  rcases img_2 h with rfl | rfl
  · exact sc_46
  · exact sc_52
end
section
/-! the words, one by one; the methods that are called -/
theorem wd_76 : Cond.initialized RX7 ∈ gtbl := gt_at 76 (by decide +kernel)
theorem wd_78 : Cond.initialized RX6 ∈ gtbl := gt_at 78 (by decide +kernel)
theorem wd_89 : Cond.initialized RJ9 ∈ gtbl := gt_at 89 (by decide +kernel)
theorem wd_90 : Cond.initialized RJ10 ∈ gtbl := gt_at 90 (by decide +kernel)
theorem wd_124 : Cond.fieldLink RX6 30 "LowHeads$House" "ageAtFirst" "[I" ∈ gtbl := gt_at 124 (by decide +kernel)
theorem wd_127 : Cond.fieldLink RX6 39 "LowHeads$House" "inchesAtFirst" "[I" ∈ gtbl := gt_at 127 (by decide +kernel)
theorem wd_157 : Cond.fieldLink RX6 9 "LowHeads$Scene" "roomOf" "[I" ∈ gtbl := gt_at 157 (by decide +kernel)
theorem wd_160 : Cond.fieldLink RX6 15 "LowHeads$Scene" "placeOf" "[I" ∈ gtbl := gt_at 160 (by decide +kernel)
theorem wd_163 : Cond.fieldLink RX6 18 "LowHeads$Scene" "bendOf" "[I" ∈ gtbl := gt_at 163 (by decide +kernel)
theorem wd_166 : Cond.fieldLink RX6 21 "LowHeads$Scene" "age" "[I" ∈ gtbl := gt_at 166 (by decide +kernel)
theorem wd_169 : Cond.fieldLink RX6 24 "LowHeads$Scene" "inches" "[I" ∈ gtbl := gt_at 169 (by decide +kernel)
theorem wd_173 : Cond.fieldLink RX6 42 "LowHeads$Scene" "law" "I" ∈ gtbl := gt_at 173 (by decide +kernel)
theorem wd_177 : Cond.fieldLink RX6 46 "LowHeads$Scene" "seed" "I" ∈ gtbl := gt_at 177 (by decide +kernel)
theorem wd_423 : Cond.static yX7_copyRow ∈ gtbl := gt_at 423 (by decide +kernel)
theorem wd_424 : Cond.code yX7_copyRow cX7_copyRow 2 (none) ∈ gtbl := gt_at 424 (by decide +kernel)
theorem wd_425 : Cond.methodLink RX7 291 Lib.Math.min.name ∈ gtbl := gt_at 425 (by decide +kernel)
theorem wd_426 : Cond.static Lib.Math.min.name ∈ gtbl := gt_at 426 (by decide +kernel)
theorem wd_427 : Cond.code Lib.Math.min.name Lib.Math.min.code 2 (some .int) ∈ gtbl := gt_at 427 (by decide +kernel)
theorem wd_428 : Cond.methodLink RX7 296 arraycopyName ∈ gtbl := gt_at 428 (by decide +kernel)
theorem wd_429 : Cond.static arraycopyName ∈ gtbl := gt_at 429 (by decide +kernel)
theorem wd_430 : Cond.native arraycopyName ∈ gtbl := gt_at 430 (by decide +kernel)
theorem wd_435 : Cond.methodLink RX6 27 yX6_sendAllOut ∈ gtbl := gt_at 435 (by decide +kernel)
theorem wd_436 : Cond.instanceMethod yX6_sendAllOut ∈ gtbl := gt_at 436 (by decide +kernel)
theorem wd_437 : Cond.selects RX6 yX6_sendAllOut yX6_sendAllOut ∈ gtbl := gt_at 437 (by decide +kernel)
theorem wd_438 : Cond.code yX6_sendAllOut cX6_sendAllOut 2 (none) ∈ gtbl := gt_at 438 (by decide +kernel)
theorem wd_439 : Cond.methodLink RX6 53 yX6_goOut ∈ gtbl := gt_at 439 (by decide +kernel)
theorem wd_440 : Cond.instanceMethod yX6_goOut ∈ gtbl := gt_at 440 (by decide +kernel)
theorem wd_441 : Cond.selects RX6 yX6_goOut yX6_goOut ∈ gtbl := gt_at 441 (by decide +kernel)
theorem wd_442 : Cond.code yX6_goOut cX6_goOut 2 (none) ∈ gtbl := gt_at 442 (by decide +kernel)
theorem wd_443 : Cond.methodLink RX6 49 yX6_standAt ∈ gtbl := gt_at 443 (by decide +kernel)
theorem wd_444 : Cond.instanceMethod yX6_standAt ∈ gtbl := gt_at 444 (by decide +kernel)
theorem wd_445 : Cond.selects RX6 yX6_standAt yX6_standAt ∈ gtbl := gt_at 445 (by decide +kernel)
theorem wd_446 : Cond.code yX6_standAt cX6_standAt 4 (none) ∈ gtbl := gt_at 446 (by decide +kernel)
theorem wd_463 : Cond.methodLink RX6 57 yX6_whoIsIn ∈ gtbl := gt_at 463 (by decide +kernel)
theorem wd_464 : Cond.instanceMethod yX6_whoIsIn ∈ gtbl := gt_at 464 (by decide +kernel)
theorem wd_465 : Cond.selects RX6 yX6_whoIsIn yX6_whoIsIn ∈ gtbl := gt_at 465 (by decide +kernel)
theorem wd_466 : Cond.code yX6_whoIsIn cX6_whoIsIn 4 (some .int) ∈ gtbl := gt_at 466 (by decide +kernel)
theorem wd_489 : Cond.instanceMethod yX6_whoIsAt ∈ gtbl := gt_at 489 (by decide +kernel)
theorem wd_490 : Cond.selects RX6 yX6_whoIsAt yX6_whoIsAt ∈ gtbl := gt_at 490 (by decide +kernel)
theorem wd_491 : Cond.code yX6_whoIsAt cX6_whoIsAt 4 (some .int) ∈ gtbl := gt_at 491 (by decide +kernel)
theorem wd_522 : Cond.methodLink RX6 61 yX6_whoIsAt ∈ gtbl := gt_at 522 (by decide +kernel)
theorem wd_703 : Cond.constant RJ6 265 (1431655765) ∈ gtbl := gt_at 703 (by decide +kernel)
theorem wd_704 : Cond.constant RJ6 266 (858993459) ∈ gtbl := gt_at 704 (by decide +kernel)
theorem wd_705 : Cond.constant RJ6 267 (252645135) ∈ gtbl := gt_at 705 (by decide +kernel)
theorem mi_X6_goOut : Mi yX6_goOut cX6_goOut 2 (none) 1 6 := ⟨wd_440, wd_441, wd_78, wd_442, by decide +kernel, rfl⟩
theorem mi_X6_sendAllOut : Mi yX6_sendAllOut cX6_sendAllOut 2 (none) 0 6 := ⟨wd_436, wd_437, wd_78, wd_438, by decide +kernel, rfl⟩
theorem mi_X6_standAt : Mi yX6_standAt cX6_standAt 4 (none) 3 6 := ⟨wd_444, wd_445, wd_78, wd_446, by decide +kernel, rfl⟩
theorem mi_X6_whoIsAt : Mi yX6_whoIsAt cX6_whoIsAt 4 (some .int) 2 6 := ⟨wd_489, wd_490, wd_78, wd_491, by decide +kernel, rfl⟩
theorem mi_X6_whoIsIn : Mi yX6_whoIsIn cX6_whoIsIn 4 (some .int) 1 6 := ⟨wd_464, wd_465, wd_78, wd_466, by decide +kernel, rfl⟩
theorem ms_X7_copyRow : Ms yX7_copyRow cX7_copyRow 2 (none) 2 := ⟨wd_423, wd_76, wd_424, by decide +kernel⟩
end
section
def F_J6_bitCount_0f7a4_0 (v0 : Int32) (st : St) : Option (Int32 × St) := bs (v0 - (((v0.toUInt32 >>> ((1 : Int32).toUInt32 &&& Int32.toUInt32 31)).toInt32) &&& 1431655765)) (fun x1 => bs ((x1 &&& 858993459) + (((x1.toUInt32 >>> ((2 : Int32).toUInt32 &&& Int32.toUInt32 31)).toInt32) &&& 858993459)) (fun x2 => bs ((x2 + ((x2.toUInt32 >>> ((4 : Int32).toUInt32 &&& Int32.toUInt32 31)).toInt32)) &&& 252645135) (fun x3 => bs ((x3 + ((x3.toUInt32 >>> ((8 : Int32).toUInt32 &&& Int32.toUInt32 31)).toInt32)) + (((x3 + ((x3.toUInt32 >>> ((8 : Int32).toUInt32 &&& Int32.toUInt32 31)).toInt32)).toUInt32 >>> ((16 : Int32).toUInt32 &&& Int32.toUInt32 31)).toInt32)) (fun x4 => some (x4 &&& 63, st)))))
set_option maxRecDepth 100000 in
set_option maxHeartbeats 4000000 in
theorem Z_J6_bitCount_0f7a4_0 {l : Launch} {X : Cx} (hX : Ok X) {p : Program} {e : Env} {s : State} {m : MethodId} {args : Array Value} {below : List Frame} {meth : Method} {c : Code} {rr : Int32} {st' : St} (hh : Hy X p s m args meth c cJ6_bitCount_0f7a4 1 RJ6) (hr : meth.sig.returnType = some .int) (v0 : Int32) (st : St) (hf : F_J6_bitCount_0f7a4_0 v0 st = some (rr, st')) : Z X p l e (rmk 0) s m args below meth c 1 (MQ below (Qf X (some (.int rr)) st') args s 0 0 (cA X)) 0 [(0, .int v0)] [] st := by
  unfold F_J6_bitCount_0f7a4_0 at hf
  refine x_iload_n hh dJ6_bitCount_0f7a4_0 rfl 0 rfl 1 rfl ?_
  refine x_iload_n hh dJ6_bitCount_0f7a4_1 rfl 0 rfl 2 rfl ?_
  refine x_iconst hh dJ6_bitCount_0f7a4_2 1 rfl 3 rfl ?_
  refine x_iushr hh dJ6_bitCount_0f7a4_3 4 rfl ?_
  refine x_ldc_w hh dJ6_bitCount_0f7a4_4 wd_703 7 rfl ?_
  refine x_iand hh dJ6_bitCount_0f7a4_7 8 rfl ?_
  refine x_isub hh dJ6_bitCount_0f7a4_8 9 rfl ?_
  obtain ⟨x1, ex1, hf⟩ := bs_some hf
  refine x_nmi ex1 ?_
  refine x_istore_n hh dJ6_bitCount_0f7a4_9 rfl (by decide) [(0, .int x1)] rfl 10 rfl ?_
  refine x_iload_n hh dJ6_bitCount_0f7a4_10 rfl 0 rfl 11 rfl ?_
  refine x_ldc_w hh dJ6_bitCount_0f7a4_11 wd_704 14 rfl ?_
  refine x_iand hh dJ6_bitCount_0f7a4_14 15 rfl ?_
  refine x_iload_n hh dJ6_bitCount_0f7a4_15 rfl 0 rfl 16 rfl ?_
  refine x_iconst hh dJ6_bitCount_0f7a4_16 2 rfl 17 rfl ?_
  refine x_iushr hh dJ6_bitCount_0f7a4_17 18 rfl ?_
  refine x_ldc_w hh dJ6_bitCount_0f7a4_18 wd_704 21 rfl ?_
  refine x_iand hh dJ6_bitCount_0f7a4_21 22 rfl ?_
  refine x_iadd hh dJ6_bitCount_0f7a4_22 23 rfl ?_
  obtain ⟨x2, ex2, hf⟩ := bs_some hf
  refine x_nmi ex2 ?_
  refine x_istore_n hh dJ6_bitCount_0f7a4_23 rfl (by decide) [(0, .int x2)] rfl 24 rfl ?_
  refine x_iload_n hh dJ6_bitCount_0f7a4_24 rfl 0 rfl 25 rfl ?_
  refine x_iload_n hh dJ6_bitCount_0f7a4_25 rfl 0 rfl 26 rfl ?_
  refine x_iconst hh dJ6_bitCount_0f7a4_26 4 rfl 27 rfl ?_
  refine x_iushr hh dJ6_bitCount_0f7a4_27 28 rfl ?_
  refine x_iadd hh dJ6_bitCount_0f7a4_28 29 rfl ?_
  refine x_ldc_w hh dJ6_bitCount_0f7a4_29 wd_705 32 rfl ?_
  refine x_iand hh dJ6_bitCount_0f7a4_32 33 rfl ?_
  obtain ⟨x3, ex3, hf⟩ := bs_some hf
  refine x_nmi ex3 ?_
  refine x_istore_n hh dJ6_bitCount_0f7a4_33 rfl (by decide) [(0, .int x3)] rfl 34 rfl ?_
  refine x_iload_n hh dJ6_bitCount_0f7a4_34 rfl 0 rfl 35 rfl ?_
  refine x_iload_n hh dJ6_bitCount_0f7a4_35 rfl 0 rfl 36 rfl ?_
  refine x_bipush hh dJ6_bitCount_0f7a4_36 8 rfl 38 rfl ?_
  refine x_iushr hh dJ6_bitCount_0f7a4_38 39 rfl ?_
  refine x_iadd hh dJ6_bitCount_0f7a4_39 40 rfl ?_
  refine x_istore_n hh dJ6_bitCount_0f7a4_40 rfl (by decide) [(0, .int (x3 + ((x3.toUInt32 >>> ((8 : Int32).toUInt32 &&& Int32.toUInt32 31)).toInt32)))] rfl 41 rfl ?_
  refine x_iload_n hh dJ6_bitCount_0f7a4_41 rfl 0 rfl 42 rfl ?_
  refine x_iload_n hh dJ6_bitCount_0f7a4_42 rfl 0 rfl 43 rfl ?_
  refine x_bipush hh dJ6_bitCount_0f7a4_43 16 rfl 45 rfl ?_
  refine x_iushr hh dJ6_bitCount_0f7a4_45 46 rfl ?_
  refine x_iadd hh dJ6_bitCount_0f7a4_46 47 rfl ?_
  obtain ⟨x4, ex4, hf⟩ := bs_some hf
  refine x_nmi ex4 ?_
  refine x_istore_n hh dJ6_bitCount_0f7a4_47 rfl (by decide) [(0, .int x4)] rfl 48 rfl ?_
  refine x_iload_n hh dJ6_bitCount_0f7a4_48 rfl 0 rfl 49 rfl ?_
  refine x_bipush hh dJ6_bitCount_0f7a4_49 63 rfl 51 rfl ?_
  refine x_iand hh dJ6_bitCount_0f7a4_51 52 rfl ?_
  cases hf
  exact x_iret hh hr dJ6_bitCount_0f7a4_52
def F_J6_bitCount_0f7a4 (v0 : Int32) (st : St) : Option (Int32 × St) := F_J6_bitCount_0f7a4_0  v0 st
set_option maxRecDepth 100000 in
theorem C_J6_bitCount_0f7a4 (l : Launch) {X : Cx} (hX : Ok X) {v0 : Int32} {st : St} {q : Int32 × St} (hf : F_J6_bitCount_0f7a4 v0 st = some q) : Ct l X 0 yJ6_bitCount_0f7a4 (.code yJ6_bitCount_0f7a4 cJ6_bitCount_0f7a4 1 (some .int)) [.int v0] st (some (.int q.1)) q.2 := by
  refine Ct.of hX (by decide) (Nat.le_of_ble_eq_true rfl) ?_
  intro p e s m args below meth c hh hr
  exact Z_J6_bitCount_0f7a4_0 hX hh hr v0 st hf
end
section
/-! copyRow: by hand -/
def lenOf (a : Nat) : Nat := match shp[a]? with
  | some (.inl (_, n)) => n
  | _ => 0
def F_X7_copyRow (a b : Nat) (st : St) : Option St := some (sA st b (va_cpy (st.1 a) (st.1 b) 0 0 (lenOf a)))
theorem imn_self (x : Int32) : imn x x = x := by simp [imn]
set_option maxRecDepth 100000 in
theorem C_X7_copyRow (l : Launch) {X : Cx} (hX : Ok X) {a b n : Nat} {st : St} {q : St} (ha : shp[a]? = some (.inl (0, n))) (hb : shp[b]? = some (.inl (0, n))) (hf : F_X7_copyRow a b st = some q) : Ct l X 2 yX7_copyRow (.code yX7_copyRow cX7_copyRow 2 (none)) [.ref (X.2.1 a), .ref (X.2.1 b)] st none q := by
  have hn : n < 2 ^ 31 := by
    have h1 : ∀ c ∈ shp, ∀ t n : Nat, c = .inl (t, n) → n < 2 ^ 31 := by
      intro c hc t n e
      have h2 : shp.all (fun c => match c with | .inl q => decide (q.2 < 2 ^ 31) | _ => true) = true := by decide +kernel
      have h3 := List.all_eq_true.mp h2 c hc
      rw [e] at h3
      simpa using h3
    exact h1 _ (List.mem_of_getElem? ha) 0 n rfl
  have hl : lenOf a = n := by simp [lenOf, ha]
  refine Ct.of hX (by decide) (Nat.le_of_ble_eq_true rfl) ?_
  intro p e s m args below meth c hh hr
  obtain ⟨st1, e1, hf⟩ := bs_some (a := sA st b (va_cpy (st.1 a) (st.1 b) 0 0 (lenOf a))) (f := fun x => some x) hf
  rw [hl] at e1
  refine Z.at0 (lv' := [(0, .ref (X.2.1 a)), (1, .ref (X.2.1 b))]) rfl ?_
  refine x_aload_n hh dX7_copyRow_0 rfl 0 rfl 1 rfl ?_
  refine x_iconst hh dX7_copyRow_1 0 rfl 2 rfl ?_
  refine x_aload_n hh dX7_copyRow_2 rfl 1 rfl 3 rfl ?_
  refine x_iconst hh dX7_copyRow_3 0 rfl 4 rfl ?_
  refine x_aload_n hh dX7_copyRow_4 rfl 0 rfl 5 rfl ?_
  refine x_alen hh dX7_copyRow_5 ha ⟨_, rfl⟩ (Int32.ofNat n) rfl 6 rfl ?_
  refine x_aload_n hh dX7_copyRow_6 rfl 1 rfl 7 rfl ?_
  refine x_alen hh dX7_copyRow_7 hb ⟨_, rfl⟩ (Int32.ofNat n) rfl 8 rfl ?_
  refine x_mmin hh dX7_copyRow_8 wd_425 wd_426 wd_89 wd_427 ⟨Nat.le_of_ble_eq_true rfl, Nat.le_of_ble_eq_true rfl⟩ 11 rfl ?_
  rw [imn_self]
  refine x_copyi hh dX7_copyRow_11 wd_428 wd_430 wd_429 wd_90 ha hb rfl hn ⟨Nat.le_of_ble_eq_true rfl, by decide⟩ 14 rfl st1 e1 ?_
  cases hf
  exact x_vret hh hr dX7_copyRow_14
end
section
def F_X6_standAt_0 (sc : Nat) (v1 : Int32) (v2 : Int32) (v3 : Int32) (st : St) : Option (St) := gi v1 6 (bs (sV st (sc + 1) v1.toNatClampNeg v2) (fun st2 => gi v1 6 (bs (sV st2 (sc + 2) v1.toNatClampNeg v3) (fun st4 => gi v1 6 (bs (sV st4 (sc + 3) v1.toNatClampNeg 0) (fun st6 => some st6))))))
set_option maxRecDepth 100000 in
set_option maxHeartbeats 4000000 in
theorem Z_X6_standAt_0 {l : Launch} {X : Cx} (hX : Ok X) {sc : Nat} (hsc : Sc sc) {p : Program} {e : Env} {s : State} {m : MethodId} {args : Array Value} {below : List Frame} {meth : Method} {c : Code} {st' : St} (hh : Hy X p s m args meth c cX6_standAt 4 RX6) (hr : meth.sig.returnType = none) (v1 : Int32) (v2 : Int32) (v3 : Int32) (st : St) (hf : F_X6_standAt_0 sc v1 v2 v3 st = some st') : Z X p l e (rmk 0) s m args below meth c 4 (MQ below (Qf X none st') args s 0 0 (cA X)) 0 [(0, .ref (X.2.1 sc)), (1, .int v1), (2, .int v2), (3, .int v3)] [] st := by
  unfold F_X6_standAt_0 at hf
  refine x_aload_n hh dX6_standAt_0 rfl 0 rfl 1 rfl ?_
  refine x_getR hh cl_6 dX6_standAt_1 hsc.1 0 (sc + 1) rfl (Nat.le_of_ble_eq_true rfl) wd_157 4 rfl ?_
  refine x_iload_n hh dX6_standAt_4 rfl 1 rfl 5 rfl ?_
  refine x_iload_n hh dX6_standAt_5 rfl 2 rfl 6 rfl ?_
  obtain ⟨hi1, hf⟩ := gi_some hf
  obtain ⟨st2, est2, hf⟩ := bs_some hf
  refine x_iastore hh dX6_standAt_6 hsc.2.1 hi1 7 rfl st2 est2 ?_
  refine x_aload_n hh dX6_standAt_7 rfl 0 rfl 8 rfl ?_
  refine x_getR hh cl_6 dX6_standAt_8 hsc.1 1 (sc + 2) rfl (Nat.le_of_ble_eq_true rfl) wd_160 11 rfl ?_
  refine x_iload_n hh dX6_standAt_11 rfl 1 rfl 12 rfl ?_
  refine x_iload_n hh dX6_standAt_12 rfl 3 rfl 13 rfl ?_
  obtain ⟨hi3, hf⟩ := gi_some hf
  obtain ⟨st4, est4, hf⟩ := bs_some hf
  refine x_iastore hh dX6_standAt_13 hsc.2.2.1 hi3 14 rfl st4 est4 ?_
  refine x_aload_n hh dX6_standAt_14 rfl 0 rfl 15 rfl ?_
  refine x_getR hh cl_6 dX6_standAt_15 hsc.1 2 (sc + 3) rfl (Nat.le_of_ble_eq_true rfl) wd_163 18 rfl ?_
  refine x_iload_n hh dX6_standAt_18 rfl 1 rfl 19 rfl ?_
  refine x_iconst hh dX6_standAt_19 0 rfl 20 rfl ?_
  obtain ⟨hi5, hf⟩ := gi_some hf
  obtain ⟨st6, est6, hf⟩ := bs_some hf
  refine x_iastore hh dX6_standAt_20 hsc.2.2.2.1 hi5 21 rfl st6 est6 ?_
  cases hf
  exact x_vret hh hr dX6_standAt_21
def F_X6_standAt (sc : Nat) (v1 : Int32) (v2 : Int32) (v3 : Int32) (st : St) : Option (St) := F_X6_standAt_0 sc v1 v2 v3 st
set_option maxRecDepth 100000 in
theorem C_X6_standAt (l : Launch) {X : Cx} (hX : Ok X) {sc : Nat} (hsc : Sc sc) {v1 : Int32} {v2 : Int32} {v3 : Int32} {st : St} {q : St} (hf : F_X6_standAt sc v1 v2 v3 st = some q) : Ct l X 0 yX6_standAt (.code yX6_standAt cX6_standAt 4 (none)) [.ref (X.2.1 sc), .int v1, .int v2, .int v3] st none q := by
  refine Ct.of hX (by decide) (Nat.le_of_ble_eq_true rfl) ?_
  intro p e s m args below meth c hh hr
  exact Z_X6_standAt_0 hX hsc hh hr v1 v2 v3 st hf

def F_X6_goOut_0 (sc : Nat) (v1 : Int32) (st : St) : Option (St) := (F_X6_standAt sc v1 ((-1)) ((-1)) st).bind (fun q1 => some q1)
set_option maxRecDepth 100000 in
set_option maxHeartbeats 4000000 in
theorem Z_X6_goOut_0 {l : Launch} {X : Cx} (hX : Ok X) {sc : Nat} (hsc : Sc sc) {p : Program} {e : Env} {s : State} {m : MethodId} {args : Array Value} {below : List Frame} {meth : Method} {c : Code} {st' : St} (hh : Hy X p s m args meth c cX6_goOut 2 RX6) (hr : meth.sig.returnType = none) (v1 : Int32) (st : St) (hf : F_X6_goOut_0 sc v1 st = some st') : Z X p l e (rmk 1) s m args below meth c 2 (MQ below (Qf X none st') args s 0 0 (cA X)) 0 [(0, .ref (X.2.1 sc)), (1, .int v1)] [] st := by
  unfold F_X6_goOut_0 at hf
  refine x_aload_n hh dX6_goOut_0 rfl 0 rfl 1 rfl ?_
  refine x_iload_n hh dX6_goOut_1 rfl 1 rfl 2 rfl ?_
  refine x_iconst hh dX6_goOut_2 (-1) rfl 3 rfl ?_
  refine x_iconst hh dX6_goOut_3 (-1) rfl 4 rfl ?_
  obtain ⟨q1, hq1, hf⟩ := b_some hf
  refine x_callV (rest := []) hh mi_X6_standAt [.int v1, .int ((-1)), .int ((-1))] dX6_goOut_4 hsc.1 wd_443 (C_X6_standAt l hX hsc hq1) rfl rfl ⟨Nat.le_of_ble_eq_true rfl, Nat.le_of_ble_eq_true rfl⟩ (Nat.le_of_ble_eq_true rfl) 7 rfl [] rfl ?_
  cases hf
  exact x_vret hh hr dX6_goOut_7
def F_X6_goOut (sc : Nat) (v1 : Int32) (st : St) : Option (St) := F_X6_goOut_0 sc v1 st
set_option maxRecDepth 100000 in
theorem C_X6_goOut (l : Launch) {X : Cx} (hX : Ok X) {sc : Nat} (hsc : Sc sc) {v1 : Int32} {st : St} {q : St} (hf : F_X6_goOut sc v1 st = some q) : Ct l X 1 yX6_goOut (.code yX6_goOut cX6_goOut 2 (none)) [.ref (X.2.1 sc), .int v1] st none q := by
  refine Ct.of hX (by decide) (Nat.le_of_ble_eq_true rfl) ?_
  intro p e s m args below meth c hh hr
  exact Z_X6_goOut_0 hX hsc hh hr v1 st hf

def F_X6_sendAllOut_2 (sc : Nat) : Nat → Int32 → St → Option (St)
  | 0, _, _ => none
  | n + 1, v1, st => if (6 : Int32) ≤ v1 then some st else (F_X6_goOut sc v1 st).bind (fun q2 => F_X6_sendAllOut_2 sc n (v1 + 1) q2)
set_option maxRecDepth 100000 in
set_option maxHeartbeats 4000000 in
theorem Z_X6_sendAllOut_2 {l : Launch} {X : Cx} (hX : Ok X) {sc : Nat} (hsc : Sc sc) {p : Program} {e : Env} {s : State} {m : MethodId} {args : Array Value} {below : List Frame} {meth : Method} {c : Code} {st' : St} (hh : Hy X p s m args meth c cX6_sendAllOut 2 RX6) (hr : meth.sig.returnType = none) : ∀ (n : Nat) (v1 : Int32) (st : St), F_X6_sendAllOut_2 sc n v1 st = some st' → Z X p l e (rmk 2) s m args below meth c 2 (MQ below (Qf X none st') args s 0 0 (cA X)) 2 [(0, .ref (X.2.1 sc)), (1, .int v1)] [] st := by
  intro n
  induction n with
  | zero =>
    intro v1 st hf
    cases hf
  | succ n ih =>
    intro v1 st hf
    rw [F_X6_sendAllOut_2] at hf
    refine x_iload_n hh dX6_sendAllOut_2 rfl 1 rfl 3 rfl ?_
    refine x_bipush hh dX6_sendAllOut_3 6 rfl 5 rfl ?_
    refine x_icmp_ge hh dX6_sendAllOut_5 19 rfl 8 rfl (fun hc1 => ?_) (fun hc1 => ?_)
    · have hf := t_pos hc1 hf
      cases hf
      exact x_vret hh hr dX6_sendAllOut_19
    · have hf := t_neg hc1 hf
      refine x_aload_n hh dX6_sendAllOut_8 rfl 0 rfl 9 rfl ?_
      refine x_iload_n hh dX6_sendAllOut_9 rfl 1 rfl 10 rfl ?_
      obtain ⟨q2, hq2, hf⟩ := b_some hf
      refine x_callV (rest := []) hh mi_X6_goOut [.int v1] dX6_sendAllOut_10 hsc.1 wd_439 (C_X6_goOut l hX hsc hq2) rfl rfl ⟨Nat.le_of_ble_eq_true rfl, Nat.le_of_ble_eq_true rfl⟩ (Nat.le_of_ble_eq_true rfl) 13 rfl [] rfl ?_
      refine x_iinc hh dX6_sendAllOut_13 1 rfl (v1 + 1) rfl (by decide) [(1, .int (v1 + 1)), (0, .ref (X.2.1 sc))] rfl 16 rfl ?_
      refine x_goto hh dX6_sendAllOut_16 2 rfl ?_
      refine x_sub (lv' := [(0, .ref (X.2.1 sc)), (1, .int (v1 + 1))]) [1, 0] rfl ?_
      exact ih (v1 + 1) q2 hf
def F_X6_sendAllOut_0 (sc : Nat) (st : St) : Option (St) := F_X6_sendAllOut_2 sc fN 0 st
set_option maxRecDepth 100000 in
set_option maxHeartbeats 4000000 in
theorem Z_X6_sendAllOut_0 {l : Launch} {X : Cx} (hX : Ok X) {sc : Nat} (hsc : Sc sc) {p : Program} {e : Env} {s : State} {m : MethodId} {args : Array Value} {below : List Frame} {meth : Method} {c : Code} {st' : St} (hh : Hy X p s m args meth c cX6_sendAllOut 2 RX6) (hr : meth.sig.returnType = none) (st : St) (hf : F_X6_sendAllOut_0 sc st = some st') : Z X p l e (rmk 2) s m args below meth c 2 (MQ below (Qf X none st') args s 0 0 (cA X)) 0 [(0, .ref (X.2.1 sc))] [] st := by
  unfold F_X6_sendAllOut_0 at hf
  refine x_iconst hh dX6_sendAllOut_0 0 rfl 1 rfl ?_
  refine x_istore_n hh dX6_sendAllOut_1 rfl (by decide) [(1, .int 0), (0, .ref (X.2.1 sc))] rfl 2 rfl ?_
  refine x_sub (lv' := [(0, .ref (X.2.1 sc)), (1, .int 0)]) [1, 0] rfl ?_
  exact Z_X6_sendAllOut_2 hX hsc hh hr fN 0 st hf
def F_X6_sendAllOut (sc : Nat) (st : St) : Option (St) := F_X6_sendAllOut_0 sc st
set_option maxRecDepth 100000 in
theorem C_X6_sendAllOut (l : Launch) {X : Cx} (hX : Ok X) {sc : Nat} (hsc : Sc sc) {st : St} {q : St} (hf : F_X6_sendAllOut sc st = some q) : Ct l X 2 yX6_sendAllOut (.code yX6_sendAllOut cX6_sendAllOut 2 (none)) [.ref (X.2.1 sc)] st none q := by
  refine Ct.of hX (by decide) (Nat.le_of_ble_eq_true rfl) ?_
  intro p e s m args below meth c hh hr
  exact Z_X6_sendAllOut_0 hX hsc hh hr st hf

def F_X6_begin_0 (sc : Nat) (ho0 : Nat) (st : St) : Option (St) := (F_X6_sendAllOut sc st).bind (fun q1 => (F_X7_copyRow (ho0 + 3) (sc + 4) q1).bind (fun q2 => (F_X7_copyRow (ho0 + 4) (sc + 5) q2).bind (fun q3 => some q3)))
set_option maxRecDepth 100000 in
set_option maxHeartbeats 4000000 in
theorem Z_X6_begin_0 {l : Launch} {X : Cx} (hX : Ok X) {sc : Nat} {ho0 : Nat} (hsc : Sc sc) (hho0 : Ho ho0) {p : Program} {e : Env} {s : State} {m : MethodId} {args : Array Value} {below : List Frame} {meth : Method} {c : Code} {st' : St} (hh : Hy X p s m args meth c cX6_begin 2 RX6) (hr : meth.sig.returnType = none) (st : St) (hf : F_X6_begin_0 sc ho0 st = some st') : Z X p l e (rmk 3) s m args below meth c 2 (MQ below (Qf X none st') args s 0 0 (cA X)) 0 [(0, .ref (X.2.1 sc)), (1, .ref (X.2.1 ho0))] [] st := by
  unfold F_X6_begin_0 at hf
  refine x_aload_n hh dX6_begin_0 rfl 0 rfl 1 rfl ?_
  obtain ⟨q1, hq1, hf⟩ := b_some hf
  refine x_callV (rest := []) hh mi_X6_sendAllOut [] dX6_begin_1 hsc.1 wd_435 (C_X6_sendAllOut l hX hsc hq1) rfl rfl ⟨Nat.le_of_ble_eq_true rfl, Nat.le_of_ble_eq_true rfl⟩ (Nat.le_of_ble_eq_true rfl) 4 rfl [] rfl ?_
  refine x_aload_n hh dX6_begin_4 rfl 1 rfl 5 rfl ?_
  refine x_getR hh cl_3 dX6_begin_5 hho0.1 5 (ho0 + 3) rfl (Nat.le_of_ble_eq_true rfl) wd_124 8 rfl ?_
  refine x_aload_n hh dX6_begin_8 rfl 0 rfl 9 rfl ?_
  refine x_getR hh cl_6 dX6_begin_9 hsc.1 3 (sc + 4) rfl (Nat.le_of_ble_eq_true rfl) wd_166 12 rfl ?_
  obtain ⟨q2, hq2, hf⟩ := b_some hf
  refine x_callSN (rest := []) hh ms_X7_copyRow [.ref (X.2.1 (ho0 + 3)), .ref (X.2.1 (sc + 4))] dX6_begin_12 (by decide) (C_X7_copyRow l hX hho0.2.2.2.1 hsc.2.2.2.2.1 hq2) rfl rfl ⟨Nat.le_of_ble_eq_true rfl, Nat.le_of_ble_eq_true rfl⟩ (Nat.le_of_ble_eq_true rfl) 15 rfl [] rfl ?_
  refine x_aload_n hh dX6_begin_15 rfl 1 rfl 16 rfl ?_
  refine x_getR hh cl_3 dX6_begin_16 hho0.1 6 (ho0 + 4) rfl (Nat.le_of_ble_eq_true rfl) wd_127 19 rfl ?_
  refine x_aload_n hh dX6_begin_19 rfl 0 rfl 20 rfl ?_
  refine x_getR hh cl_6 dX6_begin_20 hsc.1 4 (sc + 5) rfl (Nat.le_of_ble_eq_true rfl) wd_169 23 rfl ?_
  obtain ⟨q3, hq3, hf⟩ := b_some hf
  refine x_callSN (rest := []) hh ms_X7_copyRow [.ref (X.2.1 (ho0 + 4)), .ref (X.2.1 (sc + 5))] dX6_begin_23 (by decide) (C_X7_copyRow l hX hho0.2.2.2.2.1 hsc.2.2.2.2.2 hq3) rfl rfl ⟨Nat.le_of_ble_eq_true rfl, Nat.le_of_ble_eq_true rfl⟩ (Nat.le_of_ble_eq_true rfl) 26 rfl [] rfl ?_
  cases hf
  exact x_vret hh hr dX6_begin_26
def F_X6_begin (sc : Nat) (ho0 : Nat) (st : St) : Option (St) := F_X6_begin_0 sc ho0 st
set_option maxRecDepth 100000 in
theorem C_X6_begin (l : Launch) {X : Cx} (hX : Ok X) {sc : Nat} (hsc : Sc sc) {ho0 : Nat} (hho0 : Ho ho0) {st : St} {q : St} (hf : F_X6_begin sc ho0 st = some q) : Ct l X 3 yX6_begin (.code yX6_begin cX6_begin 2 (none)) [.ref (X.2.1 sc), .ref (X.2.1 ho0)] st none q := by
  refine Ct.of hX (by decide) (Nat.le_of_ble_eq_true rfl) ?_
  intro p e s m args below meth c hh hr
  exact Z_X6_begin_0 hX hsc hho0 hh hr st hf

def F_X6_whoIsIn_26 (sc : Nat) (k4 : Int32 → Int32 → Int32 → St → Option (Int32 × St)) (v1 : Int32) (v2 : Int32) (v3 : Int32) (st : St) : Option (Int32 × St) := k4 v1 v2 (v3 + 1) st
set_option maxRecDepth 100000 in
set_option maxHeartbeats 4000000 in
theorem Z_X6_whoIsIn_26 {l : Launch} {X : Cx} (hX : Ok X) {sc : Nat} (hsc : Sc sc) {p : Program} {e : Env} {s : State} {m : MethodId} {args : Array Value} {below : List Frame} {meth : Method} {c : Code} {rr : Int32} {st' : St} (hh : Hy X p s m args meth c cX6_whoIsIn 4 RX6) (hr : meth.sig.returnType = some .int) {k4 : Int32 → Int32 → Int32 → St → Option (Int32 × St)} (hk4 : ∀ (v1 : Int32) (v2 : Int32) (v3 : Int32) (st : St), k4 v1 v2 v3 st = some (rr, st') → Z X p l e (rmk 0) s m args below meth c 4 (MQ below (Qf X (some (.int rr)) st') args s 0 0 (cA X)) 4 [(0, .ref (X.2.1 sc)), (1, .int v1), (2, .int v2), (3, .int v3)] [] st) (v1 : Int32) (v2 : Int32) (v3 : Int32) (st : St) (hf : F_X6_whoIsIn_26 sc k4 v1 v2 v3 st = some (rr, st')) : Z X p l e (rmk 0) s m args below meth c 4 (MQ below (Qf X (some (.int rr)) st') args s 0 0 (cA X)) 26 [(0, .ref (X.2.1 sc)), (1, .int v1), (2, .int v2), (3, .int v3)] [] st := by
  unfold F_X6_whoIsIn_26 at hf
  refine x_iinc hh dX6_whoIsIn_26 3 rfl (v3 + 1) rfl (by decide) [(3, .int (v3 + 1)), (0, .ref (X.2.1 sc)), (1, .int v1), (2, .int v2)] rfl 29 rfl ?_
  refine x_goto hh dX6_whoIsIn_29 4 rfl ?_
  refine x_sub (lv' := [(0, .ref (X.2.1 sc)), (1, .int v1), (2, .int v2), (3, .int (v3 + 1))]) [1, 2, 3, 0] rfl ?_
  exact hk4 v1 v2 (v3 + 1) st hf
def F_X6_whoIsIn_4 (sc : Nat) : Nat → Int32 → Int32 → Int32 → St → Option (Int32 × St)
  | 0, _, _, _, _ => none
  | n + 1, v1, v2, v3, st => if (6 : Int32) ≤ v3 then some (v2, st) else gi v3 6 (if (st.1 (sc + 1) v3.toNatClampNeg) = v1 then F_X6_whoIsIn_26 sc (F_X6_whoIsIn_4 sc n) v1 (v2 ||| (1 <<< (v3 &&& 31))) v3 st else F_X6_whoIsIn_26 sc (F_X6_whoIsIn_4 sc n) v1 v2 v3 st)
set_option maxRecDepth 100000 in
set_option maxHeartbeats 4000000 in
theorem Z_X6_whoIsIn_4 {l : Launch} {X : Cx} (hX : Ok X) {sc : Nat} (hsc : Sc sc) {p : Program} {e : Env} {s : State} {m : MethodId} {args : Array Value} {below : List Frame} {meth : Method} {c : Code} {rr : Int32} {st' : St} (hh : Hy X p s m args meth c cX6_whoIsIn 4 RX6) (hr : meth.sig.returnType = some .int) : ∀ (n : Nat) (v1 : Int32) (v2 : Int32) (v3 : Int32) (st : St), F_X6_whoIsIn_4 sc n v1 v2 v3 st = some (rr, st') → Z X p l e (rmk 0) s m args below meth c 4 (MQ below (Qf X (some (.int rr)) st') args s 0 0 (cA X)) 4 [(0, .ref (X.2.1 sc)), (1, .int v1), (2, .int v2), (3, .int v3)] [] st := by
  intro n
  induction n with
  | zero =>
    intro v1 v2 v3 st hf
    cases hf
  | succ n ih =>
    intro v1 v2 v3 st hf
    rw [F_X6_whoIsIn_4] at hf
    refine x_iload_n hh dX6_whoIsIn_4 rfl 3 rfl 5 rfl ?_
    refine x_bipush hh dX6_whoIsIn_5 6 rfl 7 rfl ?_
    refine x_icmp_ge hh dX6_whoIsIn_7 32 rfl 10 rfl (fun hc1 => ?_) (fun hc1 => ?_)
    · have hf := t_pos hc1 hf
      refine x_iload_n hh dX6_whoIsIn_32 rfl 2 rfl 33 rfl ?_
      cases hf
      exact x_iret hh hr dX6_whoIsIn_33
    · have hf := t_neg hc1 hf
      refine x_aload_n hh dX6_whoIsIn_10 rfl 0 rfl 11 rfl ?_
      refine x_getR hh cl_6 dX6_whoIsIn_11 hsc.1 0 (sc + 1) rfl (Nat.le_of_ble_eq_true rfl) wd_157 14 rfl ?_
      refine x_iload_n hh dX6_whoIsIn_14 rfl 3 rfl 15 rfl ?_
      obtain ⟨hi2, hf⟩ := gi_some hf
      refine x_iaload hh dX6_whoIsIn_15 hsc.2.1 hi2 16 rfl ?_
      refine x_iload_n hh dX6_whoIsIn_16 rfl 1 rfl 17 rfl ?_
      refine x_icmp_ne hh dX6_whoIsIn_17 26 rfl 20 rfl (fun hc3 => ?_) (fun hc3 => ?_)
      · have hf := t_neg hc3 hf
        exact Z_X6_whoIsIn_26 hX hsc hh hr ih  v1 v2 v3 st hf
      · have hf := t_pos hc3 hf
        refine x_iload_n hh dX6_whoIsIn_20 rfl 2 rfl 21 rfl ?_
        refine x_iconst hh dX6_whoIsIn_21 1 rfl 22 rfl ?_
        refine x_iload_n hh dX6_whoIsIn_22 rfl 3 rfl 23 rfl ?_
        refine x_ishl hh dX6_whoIsIn_23 24 rfl ?_
        refine x_ior hh dX6_whoIsIn_24 25 rfl ?_
        refine x_istore_n hh dX6_whoIsIn_25 rfl (by decide) [(2, .int (v2 ||| (1 <<< (v3 &&& 31)))), (0, .ref (X.2.1 sc)), (1, .int v1), (3, .int v3)] rfl 26 rfl ?_
        refine x_sub (lv' := [(0, .ref (X.2.1 sc)), (1, .int v1), (2, .int (v2 ||| (1 <<< (v3 &&& 31)))), (3, .int v3)]) [1, 2, 0, 3] rfl ?_
        exact Z_X6_whoIsIn_26 hX hsc hh hr ih  v1 (v2 ||| (1 <<< (v3 &&& 31))) v3 st hf
def F_X6_whoIsIn_0 (sc : Nat) (v1 : Int32) (st : St) : Option (Int32 × St) := F_X6_whoIsIn_4 sc fN v1 0 0 st
set_option maxRecDepth 100000 in
set_option maxHeartbeats 4000000 in
theorem Z_X6_whoIsIn_0 {l : Launch} {X : Cx} (hX : Ok X) {sc : Nat} (hsc : Sc sc) {p : Program} {e : Env} {s : State} {m : MethodId} {args : Array Value} {below : List Frame} {meth : Method} {c : Code} {rr : Int32} {st' : St} (hh : Hy X p s m args meth c cX6_whoIsIn 4 RX6) (hr : meth.sig.returnType = some .int) (v1 : Int32) (st : St) (hf : F_X6_whoIsIn_0 sc v1 st = some (rr, st')) : Z X p l e (rmk 0) s m args below meth c 4 (MQ below (Qf X (some (.int rr)) st') args s 0 0 (cA X)) 0 [(0, .ref (X.2.1 sc)), (1, .int v1)] [] st := by
  unfold F_X6_whoIsIn_0 at hf
  refine x_iconst hh dX6_whoIsIn_0 0 rfl 1 rfl ?_
  refine x_istore_n hh dX6_whoIsIn_1 rfl (by decide) [(2, .int 0), (0, .ref (X.2.1 sc)), (1, .int v1)] rfl 2 rfl ?_
  refine x_iconst hh dX6_whoIsIn_2 0 rfl 3 rfl ?_
  refine x_istore_n hh dX6_whoIsIn_3 rfl (by decide) [(3, .int 0), (2, .int 0), (0, .ref (X.2.1 sc)), (1, .int v1)] rfl 4 rfl ?_
  refine x_sub (lv' := [(0, .ref (X.2.1 sc)), (1, .int v1), (2, .int 0), (3, .int 0)]) [2, 3, 1, 0] rfl ?_
  exact Z_X6_whoIsIn_4 hX hsc hh hr fN v1 0 0 st hf
def F_X6_whoIsIn (sc : Nat) (v1 : Int32) (st : St) : Option (Int32 × St) := F_X6_whoIsIn_0 sc v1 st
set_option maxRecDepth 100000 in
theorem C_X6_whoIsIn (l : Launch) {X : Cx} (hX : Ok X) {sc : Nat} (hsc : Sc sc) {v1 : Int32} {st : St} {q : Int32 × St} (hf : F_X6_whoIsIn sc v1 st = some q) : Ct l X 0 yX6_whoIsIn (.code yX6_whoIsIn cX6_whoIsIn 4 (some .int)) [.ref (X.2.1 sc), .int v1] st (some (.int q.1)) q.2 := by
  refine Ct.of hX (by decide) (Nat.le_of_ble_eq_true rfl) ?_
  intro p e s m args below meth c hh hr
  exact Z_X6_whoIsIn_0 hX hsc hh hr v1 st hf

def F_X6_somewhere_0 (sc : Nat) (st : St) : Option (Int32 × St) := (F_X6_whoIsIn sc ((-1)) st).bind (fun q1 => some (63 &&& (q1.1 ^^^ ((-1))), q1.2))
set_option maxRecDepth 100000 in
set_option maxHeartbeats 4000000 in
theorem Z_X6_somewhere_0 {l : Launch} {X : Cx} (hX : Ok X) {sc : Nat} (hsc : Sc sc) {p : Program} {e : Env} {s : State} {m : MethodId} {args : Array Value} {below : List Frame} {meth : Method} {c : Code} {rr : Int32} {st' : St} (hh : Hy X p s m args meth c cX6_somewhere 1 RX6) (hr : meth.sig.returnType = some .int) (st : St) (hf : F_X6_somewhere_0 sc st = some (rr, st')) : Z X p l e (rmk 1) s m args below meth c 1 (MQ below (Qf X (some (.int rr)) st') args s 0 0 (cA X)) 0 [(0, .ref (X.2.1 sc))] [] st := by
  unfold F_X6_somewhere_0 at hf
  refine x_bipush hh dX6_somewhere_0 63 rfl 2 rfl ?_
  refine x_aload_n hh dX6_somewhere_2 rfl 0 rfl 3 rfl ?_
  refine x_iconst hh dX6_somewhere_3 (-1) rfl 4 rfl ?_
  obtain ⟨q1, hq1, hf⟩ := b_some hf
  refine x_callV (rest := [.int 63]) hh mi_X6_whoIsIn [.int ((-1))] dX6_somewhere_4 hsc.1 wd_463 (C_X6_whoIsIn l hX hsc hq1) rfl rfl ⟨Nat.le_of_ble_eq_true rfl, Nat.le_of_ble_eq_true rfl⟩ (Nat.le_of_ble_eq_true rfl) 7 rfl [.int q1.1, .int 63] rfl ?_
  refine x_iconst hh dX6_somewhere_7 (-1) rfl 8 rfl ?_
  refine x_ixor hh dX6_somewhere_8 9 rfl ?_
  refine x_iand hh dX6_somewhere_9 10 rfl ?_
  cases hf
  exact x_iret hh hr dX6_somewhere_10
def F_X6_somewhere (sc : Nat) (st : St) : Option (Int32 × St) := F_X6_somewhere_0 sc st
set_option maxRecDepth 100000 in
theorem C_X6_somewhere (l : Launch) {X : Cx} (hX : Ok X) {sc : Nat} (hsc : Sc sc) {st : St} {q : Int32 × St} (hf : F_X6_somewhere sc st = some q) : Ct l X 1 yX6_somewhere (.code yX6_somewhere cX6_somewhere 1 (some .int)) [.ref (X.2.1 sc)] st (some (.int q.1)) q.2 := by
  refine Ct.of hX (by decide) (Nat.le_of_ble_eq_true rfl) ?_
  intro p e s m args below meth c hh hr
  exact Z_X6_somewhere_0 hX hsc hh hr st hf

def F_X6_whoIsAt_30 (sc : Nat) (k2 : Int32 → Int32 → Int32 → St → Option (Int32 × St)) (v1 : Int32) (v2 : Int32) (v3 : Int32) (st : St) : Option (Int32 × St) := k2 v1 v2 (v3 + 1) st
set_option maxRecDepth 100000 in
set_option maxHeartbeats 4000000 in
theorem Z_X6_whoIsAt_30 {l : Launch} {X : Cx} (hX : Ok X) {sc : Nat} (hsc : Sc sc) {p : Program} {e : Env} {s : State} {m : MethodId} {args : Array Value} {below : List Frame} {meth : Method} {c : Code} {rr : Int32} {st' : St} (hh : Hy X p s m args meth c cX6_whoIsAt 4 RX6) (hr : meth.sig.returnType = some .int) {k2 : Int32 → Int32 → Int32 → St → Option (Int32 × St)} (hk2 : ∀ (v1 : Int32) (v2 : Int32) (v3 : Int32) (st : St), k2 v1 v2 v3 st = some (rr, st') → Z X p l e (rmk 0) s m args below meth c 4 (MQ below (Qf X (some (.int rr)) st') args s 0 0 (cA X)) 2 [(0, .ref (X.2.1 sc)), (1, .int v1), (2, .int v2), (3, .int v3)] [] st) (v1 : Int32) (v2 : Int32) (v3 : Int32) (st : St) (hf : F_X6_whoIsAt_30 sc k2 v1 v2 v3 st = some (rr, st')) : Z X p l e (rmk 0) s m args below meth c 4 (MQ below (Qf X (some (.int rr)) st') args s 0 0 (cA X)) 30 [(0, .ref (X.2.1 sc)), (1, .int v1), (2, .int v2), (3, .int v3)] [] st := by
  unfold F_X6_whoIsAt_30 at hf
  refine x_iinc hh dX6_whoIsAt_30 3 rfl (v3 + 1) rfl (by decide) [(3, .int (v3 + 1)), (0, .ref (X.2.1 sc)), (1, .int v1), (2, .int v2)] rfl 33 rfl ?_
  refine x_goto hh dX6_whoIsAt_33 2 rfl ?_
  refine x_sub (lv' := [(0, .ref (X.2.1 sc)), (1, .int v1), (2, .int v2), (3, .int (v3 + 1))]) [1, 2, 3, 0] rfl ?_
  exact hk2 v1 v2 (v3 + 1) st hf
def F_X6_whoIsAt_2 (sc : Nat) : Nat → Int32 → Int32 → Int32 → St → Option (Int32 × St)
  | 0, _, _, _, _ => none
  | n + 1, v1, v2, v3, st => if (6 : Int32) ≤ v3 then some ((-1), st) else gi v3 6 (if (st.1 (sc + 1) v3.toNatClampNeg) = v1 then gi v3 6 (if (st.1 (sc + 2) v3.toNatClampNeg) = v2 then some (v3, st) else F_X6_whoIsAt_30 sc (F_X6_whoIsAt_2 sc n) v1 v2 v3 st) else F_X6_whoIsAt_30 sc (F_X6_whoIsAt_2 sc n) v1 v2 v3 st)
set_option maxRecDepth 100000 in
set_option maxHeartbeats 4000000 in
theorem Z_X6_whoIsAt_2 {l : Launch} {X : Cx} (hX : Ok X) {sc : Nat} (hsc : Sc sc) {p : Program} {e : Env} {s : State} {m : MethodId} {args : Array Value} {below : List Frame} {meth : Method} {c : Code} {rr : Int32} {st' : St} (hh : Hy X p s m args meth c cX6_whoIsAt 4 RX6) (hr : meth.sig.returnType = some .int) : ∀ (n : Nat) (v1 : Int32) (v2 : Int32) (v3 : Int32) (st : St), F_X6_whoIsAt_2 sc n v1 v2 v3 st = some (rr, st') → Z X p l e (rmk 0) s m args below meth c 4 (MQ below (Qf X (some (.int rr)) st') args s 0 0 (cA X)) 2 [(0, .ref (X.2.1 sc)), (1, .int v1), (2, .int v2), (3, .int v3)] [] st := by
  intro n
  induction n with
  | zero =>
    intro v1 v2 v3 st hf
    cases hf
  | succ n ih =>
    intro v1 v2 v3 st hf
    rw [F_X6_whoIsAt_2] at hf
    refine x_iload_n hh dX6_whoIsAt_2 rfl 3 rfl 3 rfl ?_
    refine x_bipush hh dX6_whoIsAt_3 6 rfl 5 rfl ?_
    refine x_icmp_ge hh dX6_whoIsAt_5 36 rfl 8 rfl (fun hc1 => ?_) (fun hc1 => ?_)
    · have hf := t_pos hc1 hf
      refine x_iconst hh dX6_whoIsAt_36 (-1) rfl 37 rfl ?_
      cases hf
      exact x_iret hh hr dX6_whoIsAt_37
    · have hf := t_neg hc1 hf
      refine x_aload_n hh dX6_whoIsAt_8 rfl 0 rfl 9 rfl ?_
      refine x_getR hh cl_6 dX6_whoIsAt_9 hsc.1 0 (sc + 1) rfl (Nat.le_of_ble_eq_true rfl) wd_157 12 rfl ?_
      refine x_iload_n hh dX6_whoIsAt_12 rfl 3 rfl 13 rfl ?_
      obtain ⟨hi2, hf⟩ := gi_some hf
      refine x_iaload hh dX6_whoIsAt_13 hsc.2.1 hi2 14 rfl ?_
      refine x_iload_n hh dX6_whoIsAt_14 rfl 1 rfl 15 rfl ?_
      refine x_icmp_ne hh dX6_whoIsAt_15 30 rfl 18 rfl (fun hc3 => ?_) (fun hc3 => ?_)
      · have hf := t_neg hc3 hf
        exact Z_X6_whoIsAt_30 hX hsc hh hr ih  v1 v2 v3 st hf
      · have hf := t_pos hc3 hf
        refine x_aload_n hh dX6_whoIsAt_18 rfl 0 rfl 19 rfl ?_
        refine x_getR hh cl_6 dX6_whoIsAt_19 hsc.1 1 (sc + 2) rfl (Nat.le_of_ble_eq_true rfl) wd_160 22 rfl ?_
        refine x_iload_n hh dX6_whoIsAt_22 rfl 3 rfl 23 rfl ?_
        obtain ⟨hi4, hf⟩ := gi_some hf
        refine x_iaload hh dX6_whoIsAt_23 hsc.2.2.1 hi4 24 rfl ?_
        refine x_iload_n hh dX6_whoIsAt_24 rfl 2 rfl 25 rfl ?_
        refine x_icmp_ne hh dX6_whoIsAt_25 30 rfl 28 rfl (fun hc5 => ?_) (fun hc5 => ?_)
        · have hf := t_neg hc5 hf
          exact Z_X6_whoIsAt_30 hX hsc hh hr ih  v1 v2 v3 st hf
        · have hf := t_pos hc5 hf
          refine x_iload_n hh dX6_whoIsAt_28 rfl 3 rfl 29 rfl ?_
          cases hf
          exact x_iret hh hr dX6_whoIsAt_29
def F_X6_whoIsAt_0 (sc : Nat) (v1 : Int32) (v2 : Int32) (st : St) : Option (Int32 × St) := F_X6_whoIsAt_2 sc fN v1 v2 0 st
set_option maxRecDepth 100000 in
set_option maxHeartbeats 4000000 in
theorem Z_X6_whoIsAt_0 {l : Launch} {X : Cx} (hX : Ok X) {sc : Nat} (hsc : Sc sc) {p : Program} {e : Env} {s : State} {m : MethodId} {args : Array Value} {below : List Frame} {meth : Method} {c : Code} {rr : Int32} {st' : St} (hh : Hy X p s m args meth c cX6_whoIsAt 4 RX6) (hr : meth.sig.returnType = some .int) (v1 : Int32) (v2 : Int32) (st : St) (hf : F_X6_whoIsAt_0 sc v1 v2 st = some (rr, st')) : Z X p l e (rmk 0) s m args below meth c 4 (MQ below (Qf X (some (.int rr)) st') args s 0 0 (cA X)) 0 [(0, .ref (X.2.1 sc)), (1, .int v1), (2, .int v2)] [] st := by
  unfold F_X6_whoIsAt_0 at hf
  refine x_iconst hh dX6_whoIsAt_0 0 rfl 1 rfl ?_
  refine x_istore_n hh dX6_whoIsAt_1 rfl (by decide) [(3, .int 0), (0, .ref (X.2.1 sc)), (1, .int v1), (2, .int v2)] rfl 2 rfl ?_
  refine x_sub (lv' := [(0, .ref (X.2.1 sc)), (1, .int v1), (2, .int v2), (3, .int 0)]) [1, 2, 3, 0] rfl ?_
  exact Z_X6_whoIsAt_2 hX hsc hh hr fN v1 v2 0 st hf
def F_X6_whoIsAt (sc : Nat) (v1 : Int32) (v2 : Int32) (st : St) : Option (Int32 × St) := F_X6_whoIsAt_0 sc v1 v2 st
set_option maxRecDepth 100000 in
theorem C_X6_whoIsAt (l : Launch) {X : Cx} (hX : Ok X) {sc : Nat} (hsc : Sc sc) {v1 : Int32} {v2 : Int32} {st : St} {q : Int32 × St} (hf : F_X6_whoIsAt sc v1 v2 st = some q) : Ct l X 0 yX6_whoIsAt (.code yX6_whoIsAt cX6_whoIsAt 4 (some .int)) [.ref (X.2.1 sc), .int v1, .int v2] st (some (.int q.1)) q.2 := by
  refine Ct.of hX (by decide) (Nat.le_of_ble_eq_true rfl) ?_
  intro p e s m args below meth c hh hr
  exact Z_X6_whoIsAt_0 hX hsc hh hr v1 v2 st hf

def F_X6_canStandAt_25 (sc : Nat) (t0 : Int32) (st : St) : Option (Int32 × St) := gb t0 (some (t0, st))
set_option maxRecDepth 100000 in
set_option maxHeartbeats 4000000 in
theorem Z_X6_canStandAt_25 {l : Launch} {X : Cx} (hX : Ok X) {sc : Nat} (hsc : Sc sc) {p : Program} {e : Env} {s : State} {m : MethodId} {args : Array Value} {below : List Frame} {meth : Method} {c : Code} {rr : Int32} {st' : St} (hh : Hy X p s m args meth c cX6_canStandAt 4 RX6) (hr : meth.sig.returnType = some .boolean) (t0 : Int32) (st : St) (hf : F_X6_canStandAt_25 sc t0 st = some (rr, st')) : Z X p l e (rmk 1) s m args below meth c 4 (MQ below (Qf X (some (.int rr)) st') args s 0 0 (cA X)) 25 [(0, .ref (X.2.1 sc))] [.int t0] st := by
  unfold F_X6_canStandAt_25 at hf
  obtain ⟨hb5, hf⟩ := gb_some hf
  cases hf
  exact x_zret hh hr (nb_n hb5) dX6_canStandAt_25
def F_X6_canStandAt_24 (sc : Nat) (st : St) : Option (Int32 × St) := F_X6_canStandAt_25 sc 0 st
set_option maxRecDepth 100000 in
set_option maxHeartbeats 4000000 in
theorem Z_X6_canStandAt_24 {l : Launch} {X : Cx} (hX : Ok X) {sc : Nat} (hsc : Sc sc) {p : Program} {e : Env} {s : State} {m : MethodId} {args : Array Value} {below : List Frame} {meth : Method} {c : Code} {rr : Int32} {st' : St} (hh : Hy X p s m args meth c cX6_canStandAt 4 RX6) (hr : meth.sig.returnType = some .boolean) (st : St) (hf : F_X6_canStandAt_24 sc st = some (rr, st')) : Z X p l e (rmk 1) s m args below meth c 4 (MQ below (Qf X (some (.int rr)) st') args s 0 0 (cA X)) 24 [(0, .ref (X.2.1 sc))] [] st := by
  unfold F_X6_canStandAt_24 at hf
  refine x_iconst hh dX6_canStandAt_24 0 rfl 25 rfl ?_
  exact Z_X6_canStandAt_25 hX hsc hh hr  0 st hf
def F_X6_canStandAt_0 (sc : Nat) (v1 : Int32) (v2 : Int32) (v3 : Int32) (st : St) : Option (Int32 × St) := gi v1 6 (if (st.1 (sc + 1) v1.toNatClampNeg) = ((-1)) then (F_X6_whoIsAt sc v2 v3 st).bind (fun q3 => if q3.1 = ((-1)) then F_X6_canStandAt_25 sc 1 q3.2 else F_X6_canStandAt_24 sc q3.2) else F_X6_canStandAt_24 sc st)
set_option maxRecDepth 100000 in
set_option maxHeartbeats 4000000 in
theorem Z_X6_canStandAt_0 {l : Launch} {X : Cx} (hX : Ok X) {sc : Nat} (hsc : Sc sc) {p : Program} {e : Env} {s : State} {m : MethodId} {args : Array Value} {below : List Frame} {meth : Method} {c : Code} {rr : Int32} {st' : St} (hh : Hy X p s m args meth c cX6_canStandAt 4 RX6) (hr : meth.sig.returnType = some .boolean) (v1 : Int32) (v2 : Int32) (v3 : Int32) (st : St) (hf : F_X6_canStandAt_0 sc v1 v2 v3 st = some (rr, st')) : Z X p l e (rmk 1) s m args below meth c 4 (MQ below (Qf X (some (.int rr)) st') args s 0 0 (cA X)) 0 [(0, .ref (X.2.1 sc)), (1, .int v1), (2, .int v2), (3, .int v3)] [] st := by
  unfold F_X6_canStandAt_0 at hf
  refine x_aload_n hh dX6_canStandAt_0 rfl 0 rfl 1 rfl ?_
  refine x_getR hh cl_6 dX6_canStandAt_1 hsc.1 0 (sc + 1) rfl (Nat.le_of_ble_eq_true rfl) wd_157 4 rfl ?_
  refine x_iload_n hh dX6_canStandAt_4 rfl 1 rfl 5 rfl ?_
  obtain ⟨hi1, hf⟩ := gi_some hf
  refine x_iaload hh dX6_canStandAt_5 hsc.2.1 hi1 6 rfl ?_
  refine x_iconst hh dX6_canStandAt_6 (-1) rfl 7 rfl ?_
  refine x_icmp_ne hh dX6_canStandAt_7 24 rfl 10 rfl (fun hc2 => ?_) (fun hc2 => ?_)
  · have hf := t_neg hc2 hf
    refine x_sub (lv' := [(0, .ref (X.2.1 sc))]) [0] rfl ?_
    exact Z_X6_canStandAt_24 hX hsc hh hr  st hf
  · have hf := t_pos hc2 hf
    refine x_aload_n hh dX6_canStandAt_10 rfl 0 rfl 11 rfl ?_
    refine x_iload_n hh dX6_canStandAt_11 rfl 2 rfl 12 rfl ?_
    refine x_iload_n hh dX6_canStandAt_12 rfl 3 rfl 13 rfl ?_
    obtain ⟨q3, hq3, hf⟩ := b_some hf
    refine x_callV (rest := []) hh mi_X6_whoIsAt [.int v2, .int v3] dX6_canStandAt_13 hsc.1 wd_522 (C_X6_whoIsAt l hX hsc hq3) rfl rfl ⟨Nat.le_of_ble_eq_true rfl, Nat.le_of_ble_eq_true rfl⟩ (Nat.le_of_ble_eq_true rfl) 16 rfl [.int q3.1] rfl ?_
    refine x_iconst hh dX6_canStandAt_16 (-1) rfl 17 rfl ?_
    refine x_icmp_ne hh dX6_canStandAt_17 24 rfl 20 rfl (fun hc4 => ?_) (fun hc4 => ?_)
    · have hf := t_neg hc4 hf
      refine x_sub (lv' := [(0, .ref (X.2.1 sc))]) [0] rfl ?_
      exact Z_X6_canStandAt_24 hX hsc hh hr  q3.2 hf
    · have hf := t_pos hc4 hf
      refine x_iconst hh dX6_canStandAt_20 1 rfl 21 rfl ?_
      refine x_goto hh dX6_canStandAt_21 25 rfl ?_
      refine x_sub (lv' := [(0, .ref (X.2.1 sc))]) [0] rfl ?_
      exact Z_X6_canStandAt_25 hX hsc hh hr  1 q3.2 hf
def F_X6_canStandAt (sc : Nat) (v1 : Int32) (v2 : Int32) (v3 : Int32) (st : St) : Option (Int32 × St) := F_X6_canStandAt_0 sc v1 v2 v3 st
set_option maxRecDepth 100000 in
theorem C_X6_canStandAt (l : Launch) {X : Cx} (hX : Ok X) {sc : Nat} (hsc : Sc sc) {v1 : Int32} {v2 : Int32} {v3 : Int32} {st : St} {q : Int32 × St} (hf : F_X6_canStandAt sc v1 v2 v3 st = some q) : Ct l X 1 yX6_canStandAt (.code yX6_canStandAt cX6_canStandAt 4 (some .boolean)) [.ref (X.2.1 sc), .int v1, .int v2, .int v3] st (some (.int q.1)) q.2 := by
  refine Ct.of hX (by decide) (Nat.le_of_ble_eq_true rfl) ?_
  intro p e s m args below meth c hh hr
  exact Z_X6_canStandAt_0 hX hsc hh hr v1 v2 v3 st hf

def F_X6_whoIsOlderIn_41 (sc : Nat) (k5 : Int32 → Int32 → Int32 → Int32 → St → Option (Int32 × St)) (v1 : Int32) (v2 : Int32) (v3 : Int32) (v4 : Int32) (st : St) : Option (Int32 × St) := k5 v1 v2 v3 (v4 + 1) st
set_option maxRecDepth 100000 in
set_option maxHeartbeats 4000000 in
theorem Z_X6_whoIsOlderIn_41 {l : Launch} {X : Cx} (hX : Ok X) {sc : Nat} (hsc : Sc sc) {p : Program} {e : Env} {s : State} {m : MethodId} {args : Array Value} {below : List Frame} {meth : Method} {c : Code} {rr : Int32} {st' : St} (hh : Hy X p s m args meth c cX6_whoIsOlderIn 5 RX6) (hr : meth.sig.returnType = some .int) {k5 : Int32 → Int32 → Int32 → Int32 → St → Option (Int32 × St)} (hk5 : ∀ (v1 : Int32) (v2 : Int32) (v3 : Int32) (v4 : Int32) (st : St), k5 v1 v2 v3 v4 st = some (rr, st') → Z X p l e (rmk 0) s m args below meth c 5 (MQ below (Qf X (some (.int rr)) st') args s 0 0 (cA X)) 5 [(0, .ref (X.2.1 sc)), (1, .int v1), (2, .int v2), (3, .int v3), (4, .int v4)] [] st) (v1 : Int32) (v2 : Int32) (v3 : Int32) (v4 : Int32) (st : St) (hf : F_X6_whoIsOlderIn_41 sc k5 v1 v2 v3 v4 st = some (rr, st')) : Z X p l e (rmk 0) s m args below meth c 5 (MQ below (Qf X (some (.int rr)) st') args s 0 0 (cA X)) 41 [(0, .ref (X.2.1 sc)), (1, .int v1), (2, .int v2), (3, .int v3), (4, .int v4)] [] st := by
  unfold F_X6_whoIsOlderIn_41 at hf
  refine x_iinc hh dX6_whoIsOlderIn_41 4 rfl (v4 + 1) rfl (by decide) [(4, .int (v4 + 1)), (0, .ref (X.2.1 sc)), (1, .int v1), (2, .int v2), (3, .int v3)] rfl 44 rfl ?_
  refine x_goto hh dX6_whoIsOlderIn_44 5 rfl ?_
  refine x_sub (lv' := [(0, .ref (X.2.1 sc)), (1, .int v1), (2, .int v2), (3, .int v3), (4, .int (v4 + 1))]) [1, 2, 3, 4, 0] rfl ?_
  exact hk5 v1 v2 v3 (v4 + 1) st hf
def F_X6_whoIsOlderIn_5 (sc : Nat) : Nat → Int32 → Int32 → Int32 → Int32 → St → Option (Int32 × St)
  | 0, _, _, _, _, _ => none
  | n + 1, v1, v2, v3, v4, st => if (6 : Int32) ≤ v4 then some (v3, st) else gi v4 6 (if (st.1 (sc + 1) v4.toNatClampNeg) = v1 then gi v4 6 (if (st.1 (sc + 4) v4.toNatClampNeg) ≤ v2 then F_X6_whoIsOlderIn_41 sc (F_X6_whoIsOlderIn_5 sc n) v1 v2 v3 v4 st else F_X6_whoIsOlderIn_41 sc (F_X6_whoIsOlderIn_5 sc n) v1 v2 (v3 ||| (1 <<< (v4 &&& 31))) v4 st) else F_X6_whoIsOlderIn_41 sc (F_X6_whoIsOlderIn_5 sc n) v1 v2 v3 v4 st)
set_option maxRecDepth 100000 in
set_option maxHeartbeats 4000000 in
theorem Z_X6_whoIsOlderIn_5 {l : Launch} {X : Cx} (hX : Ok X) {sc : Nat} (hsc : Sc sc) {p : Program} {e : Env} {s : State} {m : MethodId} {args : Array Value} {below : List Frame} {meth : Method} {c : Code} {rr : Int32} {st' : St} (hh : Hy X p s m args meth c cX6_whoIsOlderIn 5 RX6) (hr : meth.sig.returnType = some .int) : ∀ (n : Nat) (v1 : Int32) (v2 : Int32) (v3 : Int32) (v4 : Int32) (st : St), F_X6_whoIsOlderIn_5 sc n v1 v2 v3 v4 st = some (rr, st') → Z X p l e (rmk 0) s m args below meth c 5 (MQ below (Qf X (some (.int rr)) st') args s 0 0 (cA X)) 5 [(0, .ref (X.2.1 sc)), (1, .int v1), (2, .int v2), (3, .int v3), (4, .int v4)] [] st := by
  intro n
  induction n with
  | zero =>
    intro v1 v2 v3 v4 st hf
    cases hf
  | succ n ih =>
    intro v1 v2 v3 v4 st hf
    rw [F_X6_whoIsOlderIn_5] at hf
    refine x_iload hh dX6_whoIsOlderIn_5 4 rfl 7 rfl ?_
    refine x_bipush hh dX6_whoIsOlderIn_7 6 rfl 9 rfl ?_
    refine x_icmp_ge hh dX6_whoIsOlderIn_9 47 rfl 12 rfl (fun hc1 => ?_) (fun hc1 => ?_)
    · have hf := t_pos hc1 hf
      refine x_iload_n hh dX6_whoIsOlderIn_47 rfl 3 rfl 48 rfl ?_
      cases hf
      exact x_iret hh hr dX6_whoIsOlderIn_48
    · have hf := t_neg hc1 hf
      refine x_aload_n hh dX6_whoIsOlderIn_12 rfl 0 rfl 13 rfl ?_
      refine x_getR hh cl_6 dX6_whoIsOlderIn_13 hsc.1 0 (sc + 1) rfl (Nat.le_of_ble_eq_true rfl) wd_157 16 rfl ?_
      refine x_iload hh dX6_whoIsOlderIn_16 4 rfl 18 rfl ?_
      obtain ⟨hi2, hf⟩ := gi_some hf
      refine x_iaload hh dX6_whoIsOlderIn_18 hsc.2.1 hi2 19 rfl ?_
      refine x_iload_n hh dX6_whoIsOlderIn_19 rfl 1 rfl 20 rfl ?_
      refine x_icmp_ne hh dX6_whoIsOlderIn_20 41 rfl 23 rfl (fun hc3 => ?_) (fun hc3 => ?_)
      · have hf := t_neg hc3 hf
        exact Z_X6_whoIsOlderIn_41 hX hsc hh hr ih  v1 v2 v3 v4 st hf
      · have hf := t_pos hc3 hf
        refine x_aload_n hh dX6_whoIsOlderIn_23 rfl 0 rfl 24 rfl ?_
        refine x_getR hh cl_6 dX6_whoIsOlderIn_24 hsc.1 3 (sc + 4) rfl (Nat.le_of_ble_eq_true rfl) wd_166 27 rfl ?_
        refine x_iload hh dX6_whoIsOlderIn_27 4 rfl 29 rfl ?_
        obtain ⟨hi4, hf⟩ := gi_some hf
        refine x_iaload hh dX6_whoIsOlderIn_29 hsc.2.2.2.2.1 hi4 30 rfl ?_
        refine x_iload_n hh dX6_whoIsOlderIn_30 rfl 2 rfl 31 rfl ?_
        refine x_icmp_le hh dX6_whoIsOlderIn_31 41 rfl 34 rfl (fun hc5 => ?_) (fun hc5 => ?_)
        · have hf := t_pos hc5 hf
          exact Z_X6_whoIsOlderIn_41 hX hsc hh hr ih  v1 v2 v3 v4 st hf
        · have hf := t_neg hc5 hf
          refine x_iload_n hh dX6_whoIsOlderIn_34 rfl 3 rfl 35 rfl ?_
          refine x_iconst hh dX6_whoIsOlderIn_35 1 rfl 36 rfl ?_
          refine x_iload hh dX6_whoIsOlderIn_36 4 rfl 38 rfl ?_
          refine x_ishl hh dX6_whoIsOlderIn_38 39 rfl ?_
          refine x_ior hh dX6_whoIsOlderIn_39 40 rfl ?_
          refine x_istore_n hh dX6_whoIsOlderIn_40 rfl (by decide) [(3, .int (v3 ||| (1 <<< (v4 &&& 31)))), (0, .ref (X.2.1 sc)), (1, .int v1), (2, .int v2), (4, .int v4)] rfl 41 rfl ?_
          refine x_sub (lv' := [(0, .ref (X.2.1 sc)), (1, .int v1), (2, .int v2), (3, .int (v3 ||| (1 <<< (v4 &&& 31)))), (4, .int v4)]) [1, 2, 3, 0, 4] rfl ?_
          exact Z_X6_whoIsOlderIn_41 hX hsc hh hr ih  v1 v2 (v3 ||| (1 <<< (v4 &&& 31))) v4 st hf
def F_X6_whoIsOlderIn_0 (sc : Nat) (v1 : Int32) (v2 : Int32) (st : St) : Option (Int32 × St) := F_X6_whoIsOlderIn_5 sc fN v1 v2 0 0 st
set_option maxRecDepth 100000 in
set_option maxHeartbeats 4000000 in
theorem Z_X6_whoIsOlderIn_0 {l : Launch} {X : Cx} (hX : Ok X) {sc : Nat} (hsc : Sc sc) {p : Program} {e : Env} {s : State} {m : MethodId} {args : Array Value} {below : List Frame} {meth : Method} {c : Code} {rr : Int32} {st' : St} (hh : Hy X p s m args meth c cX6_whoIsOlderIn 5 RX6) (hr : meth.sig.returnType = some .int) (v1 : Int32) (v2 : Int32) (st : St) (hf : F_X6_whoIsOlderIn_0 sc v1 v2 st = some (rr, st')) : Z X p l e (rmk 0) s m args below meth c 5 (MQ below (Qf X (some (.int rr)) st') args s 0 0 (cA X)) 0 [(0, .ref (X.2.1 sc)), (1, .int v1), (2, .int v2)] [] st := by
  unfold F_X6_whoIsOlderIn_0 at hf
  refine x_iconst hh dX6_whoIsOlderIn_0 0 rfl 1 rfl ?_
  refine x_istore_n hh dX6_whoIsOlderIn_1 rfl (by decide) [(3, .int 0), (0, .ref (X.2.1 sc)), (1, .int v1), (2, .int v2)] rfl 2 rfl ?_
  refine x_iconst hh dX6_whoIsOlderIn_2 0 rfl 3 rfl ?_
  refine x_istore hh dX6_whoIsOlderIn_3 (by decide) [(4, .int 0), (3, .int 0), (0, .ref (X.2.1 sc)), (1, .int v1), (2, .int v2)] rfl 5 rfl ?_
  refine x_sub (lv' := [(0, .ref (X.2.1 sc)), (1, .int v1), (2, .int v2), (3, .int 0), (4, .int 0)]) [2, 3, 4, 1, 0] rfl ?_
  exact Z_X6_whoIsOlderIn_5 hX hsc hh hr fN v1 v2 0 0 st hf
def F_X6_whoIsOlderIn (sc : Nat) (v1 : Int32) (v2 : Int32) (st : St) : Option (Int32 × St) := F_X6_whoIsOlderIn_0 sc v1 v2 st
set_option maxRecDepth 100000 in
theorem C_X6_whoIsOlderIn (l : Launch) {X : Cx} (hX : Ok X) {sc : Nat} (hsc : Sc sc) {v1 : Int32} {v2 : Int32} {st : St} {q : Int32 × St} (hf : F_X6_whoIsOlderIn sc v1 v2 st = some q) : Ct l X 0 yX6_whoIsOlderIn (.code yX6_whoIsOlderIn cX6_whoIsOlderIn 5 (some .int)) [.ref (X.2.1 sc), .int v1, .int v2] st (some (.int q.1)) q.2 := by
  refine Ct.of hX (by decide) (Nat.le_of_ble_eq_true rfl) ?_
  intro p e s m args below meth c hh hr
  exact Z_X6_whoIsOlderIn_0 hX hsc hh hr v1 v2 st hf

def F_X6_eldestOf_40 (sc : Nat) (k4 : Int32 → Int32 → Int32 → St → Option (Int32 × St)) (v1 : Int32) (v2 : Int32) (v3 : Int32) (st : St) : Option (Int32 × St) := k4 v1 v2 (v3 + 1) st
set_option maxRecDepth 100000 in
set_option maxHeartbeats 4000000 in
theorem Z_X6_eldestOf_40 {l : Launch} {X : Cx} (hX : Ok X) {sc : Nat} (hsc : Sc sc) {p : Program} {e : Env} {s : State} {m : MethodId} {args : Array Value} {below : List Frame} {meth : Method} {c : Code} {rr : Int32} {st' : St} (hh : Hy X p s m args meth c cX6_eldestOf 4 RX6) (hr : meth.sig.returnType = some .int) {k4 : Int32 → Int32 → Int32 → St → Option (Int32 × St)} (hk4 : ∀ (v1 : Int32) (v2 : Int32) (v3 : Int32) (st : St), k4 v1 v2 v3 st = some (rr, st') → Z X p l e (rmk 0) s m args below meth c 4 (MQ below (Qf X (some (.int rr)) st') args s 0 0 (cA X)) 4 [(0, .ref (X.2.1 sc)), (1, .int v1), (2, .int v2), (3, .int v3)] [] st) (v1 : Int32) (v2 : Int32) (v3 : Int32) (st : St) (hf : F_X6_eldestOf_40 sc k4 v1 v2 v3 st = some (rr, st')) : Z X p l e (rmk 0) s m args below meth c 4 (MQ below (Qf X (some (.int rr)) st') args s 0 0 (cA X)) 40 [(0, .ref (X.2.1 sc)), (1, .int v1), (2, .int v2), (3, .int v3)] [] st := by
  unfold F_X6_eldestOf_40 at hf
  refine x_iinc hh dX6_eldestOf_40 3 rfl (v3 + 1) rfl (by decide) [(3, .int (v3 + 1)), (0, .ref (X.2.1 sc)), (1, .int v1), (2, .int v2)] rfl 43 rfl ?_
  refine x_goto hh dX6_eldestOf_43 4 rfl ?_
  refine x_sub (lv' := [(0, .ref (X.2.1 sc)), (1, .int v1), (2, .int v2), (3, .int (v3 + 1))]) [1, 2, 3, 0] rfl ?_
  exact hk4 v1 v2 (v3 + 1) st hf
def F_X6_eldestOf_38 (sc : Nat) (k4 : Int32 → Int32 → Int32 → St → Option (Int32 × St)) (v1 : Int32) (v3 : Int32) (st : St) : Option (Int32 × St) := F_X6_eldestOf_40 sc k4 v1 v3 v3 st
set_option maxRecDepth 100000 in
set_option maxHeartbeats 4000000 in
theorem Z_X6_eldestOf_38 {l : Launch} {X : Cx} (hX : Ok X) {sc : Nat} (hsc : Sc sc) {p : Program} {e : Env} {s : State} {m : MethodId} {args : Array Value} {below : List Frame} {meth : Method} {c : Code} {rr : Int32} {st' : St} (hh : Hy X p s m args meth c cX6_eldestOf 4 RX6) (hr : meth.sig.returnType = some .int) {k4 : Int32 → Int32 → Int32 → St → Option (Int32 × St)} (hk4 : ∀ (v1 : Int32) (v2 : Int32) (v3 : Int32) (st : St), k4 v1 v2 v3 st = some (rr, st') → Z X p l e (rmk 0) s m args below meth c 4 (MQ below (Qf X (some (.int rr)) st') args s 0 0 (cA X)) 4 [(0, .ref (X.2.1 sc)), (1, .int v1), (2, .int v2), (3, .int v3)] [] st) (v1 : Int32) (v3 : Int32) (st : St) (hf : F_X6_eldestOf_38 sc k4 v1 v3 st = some (rr, st')) : Z X p l e (rmk 0) s m args below meth c 4 (MQ below (Qf X (some (.int rr)) st') args s 0 0 (cA X)) 38 [(0, .ref (X.2.1 sc)), (1, .int v1), (3, .int v3)] [] st := by
  unfold F_X6_eldestOf_38 at hf
  refine x_iload_n hh dX6_eldestOf_38 rfl 2 rfl 39 rfl ?_
  refine x_istore_n hh dX6_eldestOf_39 rfl (by decide) [(2, .int v3), (0, .ref (X.2.1 sc)), (1, .int v1), (3, .int v3)] rfl 40 rfl ?_
  refine x_sub (lv' := [(0, .ref (X.2.1 sc)), (1, .int v1), (2, .int v3), (3, .int v3)]) [1, 2, 0, 3] rfl ?_
  exact Z_X6_eldestOf_40 hX hsc hh hr hk4  v1 v3 v3 st hf
def F_X6_eldestOf_4 (sc : Nat) : Nat → Int32 → Int32 → Int32 → St → Option (Int32 × St)
  | 0, _, _, _, _ => none
  | n + 1, v1, v2, v3, st => if (6 : Int32) ≤ v3 then some (v2, st) else if ((v1 >>> (v3 &&& 31)) &&& 1) = 0 then F_X6_eldestOf_40 sc (F_X6_eldestOf_4 sc n) v1 v2 v3 st else if v2 = ((-1)) then F_X6_eldestOf_38 sc (F_X6_eldestOf_4 sc n) v1 v3 st else gi v3 6 (gi v2 6 (if (st.1 (sc + 4) v3.toNatClampNeg) ≤ (st.1 (sc + 4) v2.toNatClampNeg) then F_X6_eldestOf_40 sc (F_X6_eldestOf_4 sc n) v1 v2 v3 st else F_X6_eldestOf_38 sc (F_X6_eldestOf_4 sc n) v1 v3 st))
set_option maxRecDepth 100000 in
set_option maxHeartbeats 4000000 in
theorem Z_X6_eldestOf_4 {l : Launch} {X : Cx} (hX : Ok X) {sc : Nat} (hsc : Sc sc) {p : Program} {e : Env} {s : State} {m : MethodId} {args : Array Value} {below : List Frame} {meth : Method} {c : Code} {rr : Int32} {st' : St} (hh : Hy X p s m args meth c cX6_eldestOf 4 RX6) (hr : meth.sig.returnType = some .int) : ∀ (n : Nat) (v1 : Int32) (v2 : Int32) (v3 : Int32) (st : St), F_X6_eldestOf_4 sc n v1 v2 v3 st = some (rr, st') → Z X p l e (rmk 0) s m args below meth c 4 (MQ below (Qf X (some (.int rr)) st') args s 0 0 (cA X)) 4 [(0, .ref (X.2.1 sc)), (1, .int v1), (2, .int v2), (3, .int v3)] [] st := by
  intro n
  induction n with
  | zero =>
    intro v1 v2 v3 st hf
    cases hf
  | succ n ih =>
    intro v1 v2 v3 st hf
    rw [F_X6_eldestOf_4] at hf
    refine x_iload_n hh dX6_eldestOf_4 rfl 3 rfl 5 rfl ?_
    refine x_bipush hh dX6_eldestOf_5 6 rfl 7 rfl ?_
    refine x_icmp_ge hh dX6_eldestOf_7 46 rfl 10 rfl (fun hc1 => ?_) (fun hc1 => ?_)
    · have hf := t_pos hc1 hf
      refine x_iload_n hh dX6_eldestOf_46 rfl 2 rfl 47 rfl ?_
      cases hf
      exact x_iret hh hr dX6_eldestOf_47
    · have hf := t_neg hc1 hf
      refine x_iload_n hh dX6_eldestOf_10 rfl 1 rfl 11 rfl ?_
      refine x_iload_n hh dX6_eldestOf_11 rfl 3 rfl 12 rfl ?_
      refine x_ishr hh dX6_eldestOf_12 13 rfl ?_
      refine x_iconst hh dX6_eldestOf_13 1 rfl 14 rfl ?_
      refine x_iand hh dX6_eldestOf_14 15 rfl ?_
      refine x_if_eq hh dX6_eldestOf_15 40 rfl 18 rfl (fun hc2 => ?_) (fun hc2 => ?_)
      · have hf := t_pos hc2 hf
        exact Z_X6_eldestOf_40 hX hsc hh hr ih  v1 v2 v3 st hf
      · have hf := t_neg hc2 hf
        refine x_iload_n hh dX6_eldestOf_18 rfl 2 rfl 19 rfl ?_
        refine x_iconst hh dX6_eldestOf_19 (-1) rfl 20 rfl ?_
        refine x_icmp_eq hh dX6_eldestOf_20 38 rfl 23 rfl (fun hc3 => ?_) (fun hc3 => ?_)
        · have hf := t_pos hc3 hf
          refine x_sub (lv' := [(0, .ref (X.2.1 sc)), (1, .int v1), (3, .int v3)]) [0, 1, 3] rfl ?_
          exact Z_X6_eldestOf_38 hX hsc hh hr ih  v1 v3 st hf
        · have hf := t_neg hc3 hf
          refine x_aload_n hh dX6_eldestOf_23 rfl 0 rfl 24 rfl ?_
          refine x_getR hh cl_6 dX6_eldestOf_24 hsc.1 3 (sc + 4) rfl (Nat.le_of_ble_eq_true rfl) wd_166 27 rfl ?_
          refine x_iload_n hh dX6_eldestOf_27 rfl 3 rfl 28 rfl ?_
          obtain ⟨hi4, hf⟩ := gi_some hf
          refine x_iaload hh dX6_eldestOf_28 hsc.2.2.2.2.1 hi4 29 rfl ?_
          refine x_aload_n hh dX6_eldestOf_29 rfl 0 rfl 30 rfl ?_
          refine x_getR hh cl_6 dX6_eldestOf_30 hsc.1 3 (sc + 4) rfl (Nat.le_of_ble_eq_true rfl) wd_166 33 rfl ?_
          refine x_iload_n hh dX6_eldestOf_33 rfl 2 rfl 34 rfl ?_
          obtain ⟨hi5, hf⟩ := gi_some hf
          refine x_iaload hh dX6_eldestOf_34 hsc.2.2.2.2.1 hi5 35 rfl ?_
          refine x_icmp_le hh dX6_eldestOf_35 40 rfl 38 rfl (fun hc6 => ?_) (fun hc6 => ?_)
          · have hf := t_pos hc6 hf
            exact Z_X6_eldestOf_40 hX hsc hh hr ih  v1 v2 v3 st hf
          · have hf := t_neg hc6 hf
            refine x_sub (lv' := [(0, .ref (X.2.1 sc)), (1, .int v1), (3, .int v3)]) [0, 1, 3] rfl ?_
            exact Z_X6_eldestOf_38 hX hsc hh hr ih  v1 v3 st hf
def F_X6_eldestOf_0 (sc : Nat) (v1 : Int32) (st : St) : Option (Int32 × St) := F_X6_eldestOf_4 sc fN v1 ((-1)) 0 st
set_option maxRecDepth 100000 in
set_option maxHeartbeats 4000000 in
theorem Z_X6_eldestOf_0 {l : Launch} {X : Cx} (hX : Ok X) {sc : Nat} (hsc : Sc sc) {p : Program} {e : Env} {s : State} {m : MethodId} {args : Array Value} {below : List Frame} {meth : Method} {c : Code} {rr : Int32} {st' : St} (hh : Hy X p s m args meth c cX6_eldestOf 4 RX6) (hr : meth.sig.returnType = some .int) (v1 : Int32) (st : St) (hf : F_X6_eldestOf_0 sc v1 st = some (rr, st')) : Z X p l e (rmk 0) s m args below meth c 4 (MQ below (Qf X (some (.int rr)) st') args s 0 0 (cA X)) 0 [(0, .ref (X.2.1 sc)), (1, .int v1)] [] st := by
  unfold F_X6_eldestOf_0 at hf
  refine x_iconst hh dX6_eldestOf_0 (-1) rfl 1 rfl ?_
  refine x_istore_n hh dX6_eldestOf_1 rfl (by decide) [(2, .int ((-1))), (0, .ref (X.2.1 sc)), (1, .int v1)] rfl 2 rfl ?_
  refine x_iconst hh dX6_eldestOf_2 0 rfl 3 rfl ?_
  refine x_istore_n hh dX6_eldestOf_3 rfl (by decide) [(3, .int 0), (2, .int ((-1))), (0, .ref (X.2.1 sc)), (1, .int v1)] rfl 4 rfl ?_
  refine x_sub (lv' := [(0, .ref (X.2.1 sc)), (1, .int v1), (2, .int ((-1))), (3, .int 0)]) [2, 3, 1, 0] rfl ?_
  exact Z_X6_eldestOf_4 hX hsc hh hr fN v1 ((-1)) 0 st hf
def F_X6_eldestOf (sc : Nat) (v1 : Int32) (st : St) : Option (Int32 × St) := F_X6_eldestOf_0 sc v1 st
set_option maxRecDepth 100000 in
theorem C_X6_eldestOf (l : Launch) {X : Cx} (hX : Ok X) {sc : Nat} (hsc : Sc sc) {v1 : Int32} {st : St} {q : Int32 × St} (hf : F_X6_eldestOf sc v1 st = some q) : Ct l X 0 yX6_eldestOf (.code yX6_eldestOf cX6_eldestOf 4 (some .int)) [.ref (X.2.1 sc), .int v1] st (some (.int q.1)) q.2 := by
  refine Ct.of hX (by decide) (Nat.le_of_ble_eq_true rfl) ?_
  intro p e s m args below meth c hh hr
  exact Z_X6_eldestOf_0 hX hsc hh hr v1 st hf

def F_X6_copyFrom_0 (sc : Nat) (sc0 : Nat) (st : St) : Option (St) := (F_X7_copyRow (sc0 + 1) (sc + 1) st).bind (fun q1 => (F_X7_copyRow (sc0 + 2) (sc + 2) q1).bind (fun q2 => (F_X7_copyRow (sc0 + 3) (sc + 3) q2).bind (fun q3 => (F_X7_copyRow (sc0 + 4) (sc + 4) q3).bind (fun q4 => (F_X7_copyRow (sc0 + 5) (sc + 5) q4).bind (fun q5 => bs (sV q5 sc 5 (q5.1 sc0 5)) (fun st6 => bs (sV st6 sc 6 (st6.1 sc0 6)) (fun st7 => some st7)))))))
set_option maxRecDepth 100000 in
set_option maxHeartbeats 4000000 in
theorem Z_X6_copyFrom_0 {l : Launch} {X : Cx} (hX : Ok X) {sc : Nat} {sc0 : Nat} (hsc : Sc sc) (hsc0 : Sc sc0) {p : Program} {e : Env} {s : State} {m : MethodId} {args : Array Value} {below : List Frame} {meth : Method} {c : Code} {st' : St} (hh : Hy X p s m args meth c cX6_copyFrom 2 RX6) (hr : meth.sig.returnType = none) (st : St) (hf : F_X6_copyFrom_0 sc sc0 st = some st') : Z X p l e (rmk 3) s m args below meth c 2 (MQ below (Qf X none st') args s 0 0 (cA X)) 0 [(0, .ref (X.2.1 sc)), (1, .ref (X.2.1 sc0))] [] st := by
  unfold F_X6_copyFrom_0 at hf
  refine x_aload_n hh dX6_copyFrom_0 rfl 1 rfl 1 rfl ?_
  refine x_getR hh cl_6 dX6_copyFrom_1 hsc0.1 0 (sc0 + 1) rfl (Nat.le_of_ble_eq_true rfl) wd_157 4 rfl ?_
  refine x_aload_n hh dX6_copyFrom_4 rfl 0 rfl 5 rfl ?_
  refine x_getR hh cl_6 dX6_copyFrom_5 hsc.1 0 (sc + 1) rfl (Nat.le_of_ble_eq_true rfl) wd_157 8 rfl ?_
  obtain ⟨q1, hq1, hf⟩ := b_some hf
  refine x_callSN (rest := []) hh ms_X7_copyRow [.ref (X.2.1 (sc0 + 1)), .ref (X.2.1 (sc + 1))] dX6_copyFrom_8 (by decide) (C_X7_copyRow l hX hsc0.2.1 hsc.2.1 hq1) rfl rfl ⟨Nat.le_of_ble_eq_true rfl, Nat.le_of_ble_eq_true rfl⟩ (Nat.le_of_ble_eq_true rfl) 11 rfl [] rfl ?_
  refine x_aload_n hh dX6_copyFrom_11 rfl 1 rfl 12 rfl ?_
  refine x_getR hh cl_6 dX6_copyFrom_12 hsc0.1 1 (sc0 + 2) rfl (Nat.le_of_ble_eq_true rfl) wd_160 15 rfl ?_
  refine x_aload_n hh dX6_copyFrom_15 rfl 0 rfl 16 rfl ?_
  refine x_getR hh cl_6 dX6_copyFrom_16 hsc.1 1 (sc + 2) rfl (Nat.le_of_ble_eq_true rfl) wd_160 19 rfl ?_
  obtain ⟨q2, hq2, hf⟩ := b_some hf
  refine x_callSN (rest := []) hh ms_X7_copyRow [.ref (X.2.1 (sc0 + 2)), .ref (X.2.1 (sc + 2))] dX6_copyFrom_19 (by decide) (C_X7_copyRow l hX hsc0.2.2.1 hsc.2.2.1 hq2) rfl rfl ⟨Nat.le_of_ble_eq_true rfl, Nat.le_of_ble_eq_true rfl⟩ (Nat.le_of_ble_eq_true rfl) 22 rfl [] rfl ?_
  refine x_aload_n hh dX6_copyFrom_22 rfl 1 rfl 23 rfl ?_
  refine x_getR hh cl_6 dX6_copyFrom_23 hsc0.1 2 (sc0 + 3) rfl (Nat.le_of_ble_eq_true rfl) wd_163 26 rfl ?_
  refine x_aload_n hh dX6_copyFrom_26 rfl 0 rfl 27 rfl ?_
  refine x_getR hh cl_6 dX6_copyFrom_27 hsc.1 2 (sc + 3) rfl (Nat.le_of_ble_eq_true rfl) wd_163 30 rfl ?_
  obtain ⟨q3, hq3, hf⟩ := b_some hf
  refine x_callSN (rest := []) hh ms_X7_copyRow [.ref (X.2.1 (sc0 + 3)), .ref (X.2.1 (sc + 3))] dX6_copyFrom_30 (by decide) (C_X7_copyRow l hX hsc0.2.2.2.1 hsc.2.2.2.1 hq3) rfl rfl ⟨Nat.le_of_ble_eq_true rfl, Nat.le_of_ble_eq_true rfl⟩ (Nat.le_of_ble_eq_true rfl) 33 rfl [] rfl ?_
  refine x_aload_n hh dX6_copyFrom_33 rfl 1 rfl 34 rfl ?_
  refine x_getR hh cl_6 dX6_copyFrom_34 hsc0.1 3 (sc0 + 4) rfl (Nat.le_of_ble_eq_true rfl) wd_166 37 rfl ?_
  refine x_aload_n hh dX6_copyFrom_37 rfl 0 rfl 38 rfl ?_
  refine x_getR hh cl_6 dX6_copyFrom_38 hsc.1 3 (sc + 4) rfl (Nat.le_of_ble_eq_true rfl) wd_166 41 rfl ?_
  obtain ⟨q4, hq4, hf⟩ := b_some hf
  refine x_callSN (rest := []) hh ms_X7_copyRow [.ref (X.2.1 (sc0 + 4)), .ref (X.2.1 (sc + 4))] dX6_copyFrom_41 (by decide) (C_X7_copyRow l hX hsc0.2.2.2.2.1 hsc.2.2.2.2.1 hq4) rfl rfl ⟨Nat.le_of_ble_eq_true rfl, Nat.le_of_ble_eq_true rfl⟩ (Nat.le_of_ble_eq_true rfl) 44 rfl [] rfl ?_
  refine x_aload_n hh dX6_copyFrom_44 rfl 1 rfl 45 rfl ?_
  refine x_getR hh cl_6 dX6_copyFrom_45 hsc0.1 4 (sc0 + 5) rfl (Nat.le_of_ble_eq_true rfl) wd_169 48 rfl ?_
  refine x_aload_n hh dX6_copyFrom_48 rfl 0 rfl 49 rfl ?_
  refine x_getR hh cl_6 dX6_copyFrom_49 hsc.1 4 (sc + 5) rfl (Nat.le_of_ble_eq_true rfl) wd_169 52 rfl ?_
  obtain ⟨q5, hq5, hf⟩ := b_some hf
  refine x_callSN (rest := []) hh ms_X7_copyRow [.ref (X.2.1 (sc0 + 5)), .ref (X.2.1 (sc + 5))] dX6_copyFrom_52 (by decide) (C_X7_copyRow l hX hsc0.2.2.2.2.2 hsc.2.2.2.2.2 hq5) rfl rfl ⟨Nat.le_of_ble_eq_true rfl, Nat.le_of_ble_eq_true rfl⟩ (Nat.le_of_ble_eq_true rfl) 55 rfl [] rfl ?_
  refine x_aload_n hh dX6_copyFrom_55 rfl 0 rfl 56 rfl ?_
  refine x_aload_n hh dX6_copyFrom_56 rfl 1 rfl 57 rfl ?_
  refine x_getI hh cl_6 dX6_copyFrom_57 hsc0.1 5 rfl (Nat.le_of_ble_eq_true rfl) wd_173 60 rfl ?_
  obtain ⟨st6, est6, hf⟩ := bs_some hf
  refine x_putI hh cl_6 dX6_copyFrom_60 hsc.1 5 rfl (Nat.le_of_ble_eq_true rfl) wd_173 rfl rfl rfl 63 rfl st6 est6 ?_
  refine x_aload_n hh dX6_copyFrom_63 rfl 0 rfl 64 rfl ?_
  refine x_aload_n hh dX6_copyFrom_64 rfl 1 rfl 65 rfl ?_
  refine x_getI hh cl_6 dX6_copyFrom_65 hsc0.1 6 rfl (Nat.le_of_ble_eq_true rfl) wd_177 68 rfl ?_
  obtain ⟨st7, est7, hf⟩ := bs_some hf
  refine x_putI hh cl_6 dX6_copyFrom_68 hsc.1 6 rfl (Nat.le_of_ble_eq_true rfl) wd_177 rfl rfl rfl 71 rfl st7 est7 ?_
  cases hf
  exact x_vret hh hr dX6_copyFrom_71
def F_X6_copyFrom (sc : Nat) (sc0 : Nat) (st : St) : Option (St) := F_X6_copyFrom_0 sc sc0 st
set_option maxRecDepth 100000 in
theorem C_X6_copyFrom (l : Launch) {X : Cx} (hX : Ok X) {sc : Nat} (hsc : Sc sc) {sc0 : Nat} (hsc0 : Sc sc0) {st : St} {q : St} (hf : F_X6_copyFrom sc sc0 st = some q) : Ct l X 3 yX6_copyFrom (.code yX6_copyFrom cX6_copyFrom 2 (none)) [.ref (X.2.1 sc), .ref (X.2.1 sc0)] st none q := by
  refine Ct.of hX (by decide) (Nat.le_of_ble_eq_true rfl) ?_
  intro p e s m args below meth c hh hr
  exact Z_X6_copyFrom_0 hX hsc hsc0 hh hr st hf

def F_X6_someoneHasAge_28 (sc : Nat) (k2 : Int32 → Int32 → Int32 → St → Option (Int32 × St)) (v1 : Int32) (v2 : Int32) (v3 : Int32) (st : St) : Option (Int32 × St) := k2 v1 v2 (v3 + 1) st
set_option maxRecDepth 100000 in
set_option maxHeartbeats 4000000 in
theorem Z_X6_someoneHasAge_28 {l : Launch} {X : Cx} (hX : Ok X) {sc : Nat} (hsc : Sc sc) {p : Program} {e : Env} {s : State} {m : MethodId} {args : Array Value} {below : List Frame} {meth : Method} {c : Code} {rr : Int32} {st' : St} (hh : Hy X p s m args meth c cX6_someoneHasAge 4 RX6) (hr : meth.sig.returnType = some .boolean) {k2 : Int32 → Int32 → Int32 → St → Option (Int32 × St)} (hk2 : ∀ (v1 : Int32) (v2 : Int32) (v3 : Int32) (st : St), k2 v1 v2 v3 st = some (rr, st') → Z X p l e (rmk 0) s m args below meth c 4 (MQ below (Qf X (some (.int rr)) st') args s 0 0 (cA X)) 2 [(0, .ref (X.2.1 sc)), (1, .int v1), (2, .int v2), (3, .int v3)] [] st) (v1 : Int32) (v2 : Int32) (v3 : Int32) (st : St) (hf : F_X6_someoneHasAge_28 sc k2 v1 v2 v3 st = some (rr, st')) : Z X p l e (rmk 0) s m args below meth c 4 (MQ below (Qf X (some (.int rr)) st') args s 0 0 (cA X)) 28 [(0, .ref (X.2.1 sc)), (1, .int v1), (2, .int v2), (3, .int v3)] [] st := by
  unfold F_X6_someoneHasAge_28 at hf
  refine x_iinc hh dX6_someoneHasAge_28 3 rfl (v3 + 1) rfl (by decide) [(3, .int (v3 + 1)), (0, .ref (X.2.1 sc)), (1, .int v1), (2, .int v2)] rfl 31 rfl ?_
  refine x_goto hh dX6_someoneHasAge_31 2 rfl ?_
  refine x_sub (lv' := [(0, .ref (X.2.1 sc)), (1, .int v1), (2, .int v2), (3, .int (v3 + 1))]) [1, 2, 3, 0] rfl ?_
  exact hk2 v1 v2 (v3 + 1) st hf
def F_X6_someoneHasAge_2 (sc : Nat) : Nat → Int32 → Int32 → Int32 → St → Option (Int32 × St)
  | 0, _, _, _, _ => none
  | n + 1, v1, v2, v3, st => if (6 : Int32) ≤ v3 then some (0, st) else if ((v1 >>> (v3 &&& 31)) &&& 1) = 0 then F_X6_someoneHasAge_28 sc (F_X6_someoneHasAge_2 sc n) v1 v2 v3 st else gi v3 6 (if (st.1 (sc + 4) v3.toNatClampNeg) = v2 then some (1, st) else F_X6_someoneHasAge_28 sc (F_X6_someoneHasAge_2 sc n) v1 v2 v3 st)
set_option maxRecDepth 100000 in
set_option maxHeartbeats 4000000 in
theorem Z_X6_someoneHasAge_2 {l : Launch} {X : Cx} (hX : Ok X) {sc : Nat} (hsc : Sc sc) {p : Program} {e : Env} {s : State} {m : MethodId} {args : Array Value} {below : List Frame} {meth : Method} {c : Code} {rr : Int32} {st' : St} (hh : Hy X p s m args meth c cX6_someoneHasAge 4 RX6) (hr : meth.sig.returnType = some .boolean) : ∀ (n : Nat) (v1 : Int32) (v2 : Int32) (v3 : Int32) (st : St), F_X6_someoneHasAge_2 sc n v1 v2 v3 st = some (rr, st') → Z X p l e (rmk 0) s m args below meth c 4 (MQ below (Qf X (some (.int rr)) st') args s 0 0 (cA X)) 2 [(0, .ref (X.2.1 sc)), (1, .int v1), (2, .int v2), (3, .int v3)] [] st := by
  intro n
  induction n with
  | zero =>
    intro v1 v2 v3 st hf
    cases hf
  | succ n ih =>
    intro v1 v2 v3 st hf
    rw [F_X6_someoneHasAge_2] at hf
    refine x_iload_n hh dX6_someoneHasAge_2 rfl 3 rfl 3 rfl ?_
    refine x_bipush hh dX6_someoneHasAge_3 6 rfl 5 rfl ?_
    refine x_icmp_ge hh dX6_someoneHasAge_5 34 rfl 8 rfl (fun hc1 => ?_) (fun hc1 => ?_)
    · have hf := t_pos hc1 hf
      refine x_iconst hh dX6_someoneHasAge_34 0 rfl 35 rfl ?_
      cases hf
      exact x_zret hh hr rfl dX6_someoneHasAge_35
    · have hf := t_neg hc1 hf
      refine x_iload_n hh dX6_someoneHasAge_8 rfl 1 rfl 9 rfl ?_
      refine x_iload_n hh dX6_someoneHasAge_9 rfl 3 rfl 10 rfl ?_
      refine x_ishr hh dX6_someoneHasAge_10 11 rfl ?_
      refine x_iconst hh dX6_someoneHasAge_11 1 rfl 12 rfl ?_
      refine x_iand hh dX6_someoneHasAge_12 13 rfl ?_
      refine x_if_eq hh dX6_someoneHasAge_13 28 rfl 16 rfl (fun hc2 => ?_) (fun hc2 => ?_)
      · have hf := t_pos hc2 hf
        exact Z_X6_someoneHasAge_28 hX hsc hh hr ih  v1 v2 v3 st hf
      · have hf := t_neg hc2 hf
        refine x_aload_n hh dX6_someoneHasAge_16 rfl 0 rfl 17 rfl ?_
        refine x_getR hh cl_6 dX6_someoneHasAge_17 hsc.1 3 (sc + 4) rfl (Nat.le_of_ble_eq_true rfl) wd_166 20 rfl ?_
        refine x_iload_n hh dX6_someoneHasAge_20 rfl 3 rfl 21 rfl ?_
        obtain ⟨hi3, hf⟩ := gi_some hf
        refine x_iaload hh dX6_someoneHasAge_21 hsc.2.2.2.2.1 hi3 22 rfl ?_
        refine x_iload_n hh dX6_someoneHasAge_22 rfl 2 rfl 23 rfl ?_
        refine x_icmp_ne hh dX6_someoneHasAge_23 28 rfl 26 rfl (fun hc4 => ?_) (fun hc4 => ?_)
        · have hf := t_neg hc4 hf
          exact Z_X6_someoneHasAge_28 hX hsc hh hr ih  v1 v2 v3 st hf
        · have hf := t_pos hc4 hf
          refine x_iconst hh dX6_someoneHasAge_26 1 rfl 27 rfl ?_
          cases hf
          exact x_zret hh hr rfl dX6_someoneHasAge_27
def F_X6_someoneHasAge_0 (sc : Nat) (v1 : Int32) (v2 : Int32) (st : St) : Option (Int32 × St) := F_X6_someoneHasAge_2 sc fN v1 v2 0 st
set_option maxRecDepth 100000 in
set_option maxHeartbeats 4000000 in
theorem Z_X6_someoneHasAge_0 {l : Launch} {X : Cx} (hX : Ok X) {sc : Nat} (hsc : Sc sc) {p : Program} {e : Env} {s : State} {m : MethodId} {args : Array Value} {below : List Frame} {meth : Method} {c : Code} {rr : Int32} {st' : St} (hh : Hy X p s m args meth c cX6_someoneHasAge 4 RX6) (hr : meth.sig.returnType = some .boolean) (v1 : Int32) (v2 : Int32) (st : St) (hf : F_X6_someoneHasAge_0 sc v1 v2 st = some (rr, st')) : Z X p l e (rmk 0) s m args below meth c 4 (MQ below (Qf X (some (.int rr)) st') args s 0 0 (cA X)) 0 [(0, .ref (X.2.1 sc)), (1, .int v1), (2, .int v2)] [] st := by
  unfold F_X6_someoneHasAge_0 at hf
  refine x_iconst hh dX6_someoneHasAge_0 0 rfl 1 rfl ?_
  refine x_istore_n hh dX6_someoneHasAge_1 rfl (by decide) [(3, .int 0), (0, .ref (X.2.1 sc)), (1, .int v1), (2, .int v2)] rfl 2 rfl ?_
  refine x_sub (lv' := [(0, .ref (X.2.1 sc)), (1, .int v1), (2, .int v2), (3, .int 0)]) [1, 2, 3, 0] rfl ?_
  exact Z_X6_someoneHasAge_2 hX hsc hh hr fN v1 v2 0 st hf
def F_X6_someoneHasAge (sc : Nat) (v1 : Int32) (v2 : Int32) (st : St) : Option (Int32 × St) := F_X6_someoneHasAge_0 sc v1 v2 st
set_option maxRecDepth 100000 in
theorem C_X6_someoneHasAge (l : Launch) {X : Cx} (hX : Ok X) {sc : Nat} (hsc : Sc sc) {v1 : Int32} {v2 : Int32} {st : St} {q : Int32 × St} (hf : F_X6_someoneHasAge sc v1 v2 st = some q) : Ct l X 0 yX6_someoneHasAge (.code yX6_someoneHasAge cX6_someoneHasAge 4 (some .boolean)) [.ref (X.2.1 sc), .int v1, .int v2] st (some (.int q.1)) q.2 := by
  refine Ct.of hX (by decide) (Nat.le_of_ble_eq_true rfl) ?_
  intro p e s m args below meth c hh hr
  exact Z_X6_someoneHasAge_0 hX hsc hh hr v1 v2 st hf
end
