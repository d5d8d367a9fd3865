-- PART A out of the printed skeleton; names out of the printed names
-- ===== PART A: goes FIRST, ahead of the names: the tables' words, and 'selects' of the private methods out of them =====
/-- a private method of a class that the tables say can be made, by its rows of tables_1 -/
def lw_okq (q : MethodName × Nat) : Prop := (q.1.cls ≠ "java/lang/invoke/MethodHandle" ∧ q.1.cls ≠ "java/lang/invoke/VarHandle") ∧ Cond.instantiable q.1.cls q.2 ∈ tables_1 ∧ Cond.privateMethod q.1 ∈ tables_1 ∧ Cond.instanceMethod q.1 ∈ tables_1
theorem lw_p0 : lw_okq (⟨"CreditBroker", "shelfAt", "(I)LCreditBroker$Shelf;"⟩, 6) := ⟨⟨by decide +kernel, by decide +kernel⟩, List.mem_of_getElem? (i := 16) (by decide +kernel), List.mem_of_getElem? (i := 376) (by decide +kernel), List.mem_of_getElem? (i := 377) (by decide +kernel)⟩
theorem lw_p1 : lw_okq (⟨"CreditBroker", "refuse", "(I)I"⟩, 6) := ⟨⟨by decide +kernel, by decide +kernel⟩, List.mem_of_getElem? (i := 16) (by decide +kernel), List.mem_of_getElem? (i := 386) (by decide +kernel), List.mem_of_getElem? (i := 387) (by decide +kernel)⟩
theorem lw_p2 : lw_okq (⟨"CreditBroker", "causeAt", "(II)LCreditBroker$Cause;"⟩, 6) := ⟨⟨by decide +kernel, by decide +kernel⟩, List.mem_of_getElem? (i := 16) (by decide +kernel), List.mem_of_getElem? (i := 433) (by decide +kernel), List.mem_of_getElem? (i := 434) (by decide +kernel)⟩
theorem lw_p3 : lw_okq (⟨"CreditBroker$Pattern", "begin", "()V"⟩, 6) := ⟨⟨by decide +kernel, by decide +kernel⟩, List.mem_of_getElem? (i := 61) (by decide +kernel), List.mem_of_getElem? (i := 487) (by decide +kernel), List.mem_of_getElem? (i := 488) (by decide +kernel)⟩
theorem lw_p4 : lw_okq (⟨"CreditBroker$Pattern", "readByte", "(IZ)Z"⟩, 6) := ⟨⟨by decide +kernel, by decide +kernel⟩, List.mem_of_getElem? (i := 61) (by decide +kernel), List.mem_of_getElem? (i := 491) (by decide +kernel), List.mem_of_getElem? (i := 492) (by decide +kernel)⟩
theorem lw_p5 : lw_okq (⟨"CreditBroker$Pattern", "readLetter", "(I)Z"⟩, 6) := ⟨⟨by decide +kernel, by decide +kernel⟩, List.mem_of_getElem? (i := 61) (by decide +kernel), List.mem_of_getElem? (i := 495) (by decide +kernel), List.mem_of_getElem? (i := 496) (by decide +kernel)⟩
theorem lw_p6 : lw_okq (⟨"CreditBroker$Pattern", "readDot", "()Z"⟩, 6) := ⟨⟨by decide +kernel, by decide +kernel⟩, List.mem_of_getElem? (i := 61) (by decide +kernel), List.mem_of_getElem? (i := 500) (by decide +kernel), List.mem_of_getElem? (i := 501) (by decide +kernel)⟩
theorem lw_p7 : lw_okq (⟨"CreditBroker", "refuseFault", "(I)I"⟩, 6) := ⟨⟨by decide +kernel, by decide +kernel⟩, List.mem_of_getElem? (i := 16) (by decide +kernel), List.mem_of_getElem? (i := 504) (by decide +kernel), List.mem_of_getElem? (i := 505) (by decide +kernel)⟩
theorem lw_p8 : lw_okq (⟨"CreditBroker$Pattern", "takesSize", "(I)Z"⟩, 6) := ⟨⟨by decide +kernel, by decide +kernel⟩, List.mem_of_getElem? (i := 61) (by decide +kernel), List.mem_of_getElem? (i := 599) (by decide +kernel), List.mem_of_getElem? (i := 600) (by decide +kernel)⟩
theorem lw_p9 : lw_okq (⟨"CreditBroker$Pattern", "takesAllOfSize", "(LCreditBroker$Pattern;I)Z"⟩, 6) := ⟨⟨by decide +kernel, by decide +kernel⟩, List.mem_of_getElem? (i := 61) (by decide +kernel), List.mem_of_getElem? (i := 603) (by decide +kernel), List.mem_of_getElem? (i := 604) (by decide +kernel)⟩
theorem lw_p10 : lw_okq (⟨"CreditBroker$Pattern", "takesAny", "(I)Z"⟩, 6) := ⟨⟨by decide +kernel, by decide +kernel⟩, List.mem_of_getElem? (i := 61) (by decide +kernel), List.mem_of_getElem? (i := 607) (by decide +kernel), List.mem_of_getElem? (i := 608) (by decide +kernel)⟩
theorem lw_p11 : lw_okq (⟨"CreditBroker$World", "addDead", "(ILCreditBroker$Queue;LCreditBroker$Cause;)V"⟩, 11) := ⟨⟨by decide +kernel, by decide +kernel⟩, List.mem_of_getElem? (i := 24) (by decide +kernel), List.mem_of_getElem? (i := 644) (by decide +kernel), List.mem_of_getElem? (i := 645) (by decide +kernel)⟩
theorem lw_p12 : lw_okq (⟨"CreditBroker$World", "removeDead", "(I)V"⟩, 11) := ⟨⟨by decide +kernel, by decide +kernel⟩, List.mem_of_getElem? (i := 24) (by decide +kernel), List.mem_of_getElem? (i := 648) (by decide +kernel), List.mem_of_getElem? (i := 649) (by decide +kernel)⟩
theorem lw_p13 : lw_okq (⟨"CreditBroker$Queue", "mayGoBut", "(II)Z"⟩, 13) := ⟨⟨by decide +kernel, by decide +kernel⟩, List.mem_of_getElem? (i := 89) (by decide +kernel), List.mem_of_getElem? (i := 679) (by decide +kernel), List.mem_of_getElem? (i := 680) (by decide +kernel)⟩
theorem lw_p14 : lw_okq (⟨"CreditBroker$World", "firstPresent", "(I)I"⟩, 11) := ⟨⟨by decide +kernel, by decide +kernel⟩, List.mem_of_getElem? (i := 24) (by decide +kernel), List.mem_of_getElem? (i := 695) (by decide +kernel), List.mem_of_getElem? (i := 696) (by decide +kernel)⟩
theorem lw_p15 : lw_okq (⟨"CreditBroker$World", "returnCredit", "(I)V"⟩, 11) := ⟨⟨by decide +kernel, by decide +kernel⟩, List.mem_of_getElem? (i := 24) (by decide +kernel), List.mem_of_getElem? (i := 731) (by decide +kernel), List.mem_of_getElem? (i := 732) (by decide +kernel)⟩
def lw_privs_1 : List (MethodName × Nat) := [(⟨"CreditBroker", "shelfAt", "(I)LCreditBroker$Shelf;"⟩, 6), (⟨"CreditBroker", "refuse", "(I)I"⟩, 6), (⟨"CreditBroker", "causeAt", "(II)LCreditBroker$Cause;"⟩, 6), (⟨"CreditBroker$Pattern", "begin", "()V"⟩, 6), (⟨"CreditBroker$Pattern", "readByte", "(IZ)Z"⟩, 6), (⟨"CreditBroker$Pattern", "readLetter", "(I)Z"⟩, 6), (⟨"CreditBroker$Pattern", "readDot", "()Z"⟩, 6), (⟨"CreditBroker", "refuseFault", "(I)I"⟩, 6), (⟨"CreditBroker$Pattern", "takesSize", "(I)Z"⟩, 6), (⟨"CreditBroker$Pattern", "takesAllOfSize", "(LCreditBroker$Pattern;I)Z"⟩, 6), (⟨"CreditBroker$Pattern", "takesAny", "(I)Z"⟩, 6), (⟨"CreditBroker$World", "addDead", "(ILCreditBroker$Queue;LCreditBroker$Cause;)V"⟩, 11), (⟨"CreditBroker$World", "removeDead", "(I)V"⟩, 11), (⟨"CreditBroker$Queue", "mayGoBut", "(II)Z"⟩, 13), (⟨"CreditBroker$World", "firstPresent", "(I)I"⟩, 11), (⟨"CreditBroker$World", "returnCredit", "(I)V"⟩, 11)]
theorem lw_r1 : ∀ q ∈ lw_privs_1, lw_okq q := List.forall_mem_cons.mpr ⟨lw_p0, List.forall_mem_cons.mpr ⟨lw_p1, List.forall_mem_cons.mpr ⟨lw_p2, List.forall_mem_cons.mpr ⟨lw_p3, List.forall_mem_cons.mpr ⟨lw_p4, List.forall_mem_cons.mpr ⟨lw_p5, List.forall_mem_cons.mpr ⟨lw_p6, List.forall_mem_cons.mpr ⟨lw_p7, List.forall_mem_cons.mpr ⟨lw_p8, List.forall_mem_cons.mpr ⟨lw_p9, List.forall_mem_cons.mpr ⟨lw_p10, List.forall_mem_cons.mpr ⟨lw_p11, List.forall_mem_cons.mpr ⟨lw_p12, List.forall_mem_cons.mpr ⟨lw_p13, List.forall_mem_cons.mpr ⟨lw_p14, List.forall_mem_cons.mpr ⟨lw_p15, fun _ h => absurd h List.not_mem_nil⟩⟩⟩⟩⟩⟩⟩⟩⟩⟩⟩⟩⟩⟩⟩⟩
theorem lw_p16 : lw_okq (⟨"CreditBroker$World", "die", "(LCreditBroker$Queue;ILCreditBroker$Cause;)V"⟩, 11) := ⟨⟨by decide +kernel, by decide +kernel⟩, List.mem_of_getElem? (i := 24) (by decide +kernel), List.mem_of_getElem? (i := 755) (by decide +kernel), List.mem_of_getElem? (i := 756) (by decide +kernel)⟩
theorem lw_p17 : lw_okq (⟨"CreditBroker$World", "letTimeReach", "(LCreditBroker$Queue;I)V"⟩, 11) := ⟨⟨by decide +kernel, by decide +kernel⟩, List.mem_of_getElem? (i := 24) (by decide +kernel), List.mem_of_getElem? (i := 784) (by decide +kernel), List.mem_of_getElem? (i := 785) (by decide +kernel)⟩
theorem lw_p18 : lw_okq (⟨"CreditBroker$Queue", "withNext", "(I)I"⟩, 13) := ⟨⟨by decide +kernel, by decide +kernel⟩, List.mem_of_getElem? (i := 89) (by decide +kernel), List.mem_of_getElem? (i := 917) (by decide +kernel), List.mem_of_getElem? (i := 918) (by decide +kernel)⟩
theorem lw_p19 : lw_okq (⟨"CreditBroker$Queue", "openTime", "(II)I"⟩, 13) := ⟨⟨by decide +kernel, by decide +kernel⟩, List.mem_of_getElem? (i := 89) (by decide +kernel), List.mem_of_getElem? (i := 931) (by decide +kernel), List.mem_of_getElem? (i := 932) (by decide +kernel)⟩
theorem lw_p20 : lw_okq (⟨"CreditBroker$Queue", "readyTime", "(LCreditBroker$Letter;I)I"⟩, 13) := ⟨⟨by decide +kernel, by decide +kernel⟩, List.mem_of_getElem? (i := 89) (by decide +kernel), List.mem_of_getElem? (i := 935) (by decide +kernel), List.mem_of_getElem? (i := 936) (by decide +kernel)⟩
theorem lw_p21 : lw_okq (⟨"CreditBroker$World", "draw", "(I)I"⟩, 11) := ⟨⟨by decide +kernel, by decide +kernel⟩, List.mem_of_getElem? (i := 24) (by decide +kernel), List.mem_of_getElem? (i := 970) (by decide +kernel), List.mem_of_getElem? (i := 971) (by decide +kernel)⟩
theorem lw_p22 : lw_okq (⟨"CreditBroker$World", "sendByDraws", "()Z"⟩, 11) := ⟨⟨by decide +kernel, by decide +kernel⟩, List.mem_of_getElem? (i := 24) (by decide +kernel), List.mem_of_getElem? (i := 975) (by decide +kernel), List.mem_of_getElem? (i := 976) (by decide +kernel)⟩
theorem lw_p23 : lw_okq (⟨"CreditBroker$World", "giveByDraw", "()Z"⟩, 11) := ⟨⟨by decide +kernel, by decide +kernel⟩, List.mem_of_getElem? (i := 24) (by decide +kernel), List.mem_of_getElem? (i := 980) (by decide +kernel), List.mem_of_getElem? (i := 981) (by decide +kernel)⟩
theorem lw_p24 : lw_okq (⟨"CreditBroker$World", "answerByDraw", "(Z)Z"⟩, 11) := ⟨⟨by decide +kernel, by decide +kernel⟩, List.mem_of_getElem? (i := 24) (by decide +kernel), List.mem_of_getElem? (i := 985) (by decide +kernel), List.mem_of_getElem? (i := 986) (by decide +kernel)⟩
theorem lw_p25 : lw_okq (⟨"CreditBroker", "countHolding", "()I"⟩, 6) := ⟨⟨by decide +kernel, by decide +kernel⟩, List.mem_of_getElem? (i := 16) (by decide +kernel), List.mem_of_getElem? (i := 1031) (by decide +kernel), List.mem_of_getElem? (i := 1032) (by decide +kernel)⟩
theorem lw_p26 : lw_okq (⟨"CreditBroker", "refusalsAsked", "(I)I"⟩, 6) := ⟨⟨by decide +kernel, by decide +kernel⟩, List.mem_of_getElem? (i := 16) (by decide +kernel), List.mem_of_getElem? (i := 1035) (by decide +kernel), List.mem_of_getElem? (i := 1036) (by decide +kernel)⟩
theorem lw_p27 : lw_okq (⟨"CreditBrokerModel", "refused", "(I)I"⟩, 17) := ⟨⟨by decide +kernel, by decide +kernel⟩, List.mem_of_getElem? (i := 1039) (by decide +kernel), List.mem_of_getElem? (i := 1105) (by decide +kernel), List.mem_of_getElem? (i := 1106) (by decide +kernel)⟩
theorem lw_p28 : lw_okq (⟨"CreditBrokerModel", "isRead", "(Z)Z"⟩, 17) := ⟨⟨by decide +kernel, by decide +kernel⟩, List.mem_of_getElem? (i := 1039) (by decide +kernel), List.mem_of_getElem? (i := 1117) (by decide +kernel), List.mem_of_getElem? (i := 1118) (by decide +kernel)⟩
theorem lw_p29 : lw_okq (⟨"CreditBrokerModel", "byteAt", "(I)I"⟩, 17) := ⟨⟨by decide +kernel, by decide +kernel⟩, List.mem_of_getElem? (i := 1039) (by decide +kernel), List.mem_of_getElem? (i := 1121) (by decide +kernel), List.mem_of_getElem? (i := 1122) (by decide +kernel)⟩
theorem lw_p30 : lw_okq (⟨"CreditBrokerModel", "faulty", "()I"⟩, 17) := ⟨⟨by decide +kernel, by decide +kernel⟩, List.mem_of_getElem? (i := 1039) (by decide +kernel), List.mem_of_getElem? (i := 1127) (by decide +kernel), List.mem_of_getElem? (i := 1128) (by decide +kernel)⟩
theorem lw_p31 : lw_okq (⟨"CreditBrokerModel", "is", "(III)V"⟩, 17) := ⟨⟨by decide +kernel, by decide +kernel⟩, List.mem_of_getElem? (i := 1039) (by decide +kernel), List.mem_of_getElem? (i := 1139) (by decide +kernel), List.mem_of_getElem? (i := 1140) (by decide +kernel)⟩
def lw_privs_2 : List (MethodName × Nat) := [(⟨"CreditBroker$World", "die", "(LCreditBroker$Queue;ILCreditBroker$Cause;)V"⟩, 11), (⟨"CreditBroker$World", "letTimeReach", "(LCreditBroker$Queue;I)V"⟩, 11), (⟨"CreditBroker$Queue", "withNext", "(I)I"⟩, 13), (⟨"CreditBroker$Queue", "openTime", "(II)I"⟩, 13), (⟨"CreditBroker$Queue", "readyTime", "(LCreditBroker$Letter;I)I"⟩, 13), (⟨"CreditBroker$World", "draw", "(I)I"⟩, 11), (⟨"CreditBroker$World", "sendByDraws", "()Z"⟩, 11), (⟨"CreditBroker$World", "giveByDraw", "()Z"⟩, 11), (⟨"CreditBroker$World", "answerByDraw", "(Z)Z"⟩, 11), (⟨"CreditBroker", "countHolding", "()I"⟩, 6), (⟨"CreditBroker", "refusalsAsked", "(I)I"⟩, 6), (⟨"CreditBrokerModel", "refused", "(I)I"⟩, 17), (⟨"CreditBrokerModel", "isRead", "(Z)Z"⟩, 17), (⟨"CreditBrokerModel", "byteAt", "(I)I"⟩, 17), (⟨"CreditBrokerModel", "faulty", "()I"⟩, 17), (⟨"CreditBrokerModel", "is", "(III)V"⟩, 17)]
theorem lw_r2 : ∀ q ∈ lw_privs_2, lw_okq q := List.forall_mem_cons.mpr ⟨lw_p16, List.forall_mem_cons.mpr ⟨lw_p17, List.forall_mem_cons.mpr ⟨lw_p18, List.forall_mem_cons.mpr ⟨lw_p19, List.forall_mem_cons.mpr ⟨lw_p20, List.forall_mem_cons.mpr ⟨lw_p21, List.forall_mem_cons.mpr ⟨lw_p22, List.forall_mem_cons.mpr ⟨lw_p23, List.forall_mem_cons.mpr ⟨lw_p24, List.forall_mem_cons.mpr ⟨lw_p25, List.forall_mem_cons.mpr ⟨lw_p26, List.forall_mem_cons.mpr ⟨lw_p27, List.forall_mem_cons.mpr ⟨lw_p28, List.forall_mem_cons.mpr ⟨lw_p29, List.forall_mem_cons.mpr ⟨lw_p30, List.forall_mem_cons.mpr ⟨lw_p31, fun _ h => absurd h List.not_mem_nil⟩⟩⟩⟩⟩⟩⟩⟩⟩⟩⟩⟩⟩⟩⟩⟩
theorem lw_p32 : lw_okq (⟨"CreditBrokerModel", "isFit", "(I)Z"⟩, 17) := ⟨⟨by decide +kernel, by decide +kernel⟩, List.mem_of_getElem? (i := 1039) (by decide +kernel), List.mem_of_getElem? (i := 1147) (by decide +kernel), List.mem_of_getElem? (i := 1148) (by decide +kernel)⟩
theorem lw_p33 : lw_okq (⟨"CreditBrokerModel", "isLong", "(II)Z"⟩, 17) := ⟨⟨by decide +kernel, by decide +kernel⟩, List.mem_of_getElem? (i := 1039) (by decide +kernel), List.mem_of_getElem? (i := 1151) (by decide +kernel), List.mem_of_getElem? (i := 1152) (by decide +kernel)⟩
theorem lw_p34 : lw_okq (⟨"CreditBrokerModel", "of", "(II)I"⟩, 17) := ⟨⟨by decide +kernel, by decide +kernel⟩, List.mem_of_getElem? (i := 1039) (by decide +kernel), List.mem_of_getElem? (i := 1155) (by decide +kernel), List.mem_of_getElem? (i := 1156) (by decide +kernel)⟩
theorem lw_p35 : lw_okq (⟨"CreditBrokerModel", "partOf", "(II)I"⟩, 17) := ⟨⟨by decide +kernel, by decide +kernel⟩, List.mem_of_getElem? (i := 1039) (by decide +kernel), List.mem_of_getElem? (i := 1159) (by decide +kernel), List.mem_of_getElem? (i := 1160) (by decide +kernel)⟩
theorem lw_p36 : lw_okq (⟨"CreditBrokerModel", "isQueue", "(I)Z"⟩, 17) := ⟨⟨by decide +kernel, by decide +kernel⟩, List.mem_of_getElem? (i := 1039) (by decide +kernel), List.mem_of_getElem? (i := 1167) (by decide +kernel), List.mem_of_getElem? (i := 1168) (by decide +kernel)⟩
theorem lw_p37 : lw_okq (⟨"CreditBrokerModel", "publishes", "(III)I"⟩, 17) := ⟨⟨by decide +kernel, by decide +kernel⟩, List.mem_of_getElem? (i := 1039) (by decide +kernel), List.mem_of_getElem? (i := 1181) (by decide +kernel), List.mem_of_getElem? (i := 1182) (by decide +kernel)⟩
theorem lw_p38 : lw_okq (⟨"CreditBrokerModel", "newDead", "(II)I"⟩, 17) := ⟨⟨by decide +kernel, by decide +kernel⟩, List.mem_of_getElem? (i := 1039) (by decide +kernel), List.mem_of_getElem? (i := 1185) (by decide +kernel), List.mem_of_getElem? (i := 1186) (by decide +kernel)⟩
theorem lw_p39 : lw_okq (⟨"CreditBrokerModel", "ahead", "(IIII)V"⟩, 17) := ⟨⟨by decide +kernel, by decide +kernel⟩, List.mem_of_getElem? (i := 1039) (by decide +kernel), List.mem_of_getElem? (i := 1189) (by decide +kernel), List.mem_of_getElem? (i := 1190) (by decide +kernel)⟩
theorem lw_p40 : lw_okq (⟨"CreditBrokerModel", "comes", "(II)V"⟩, 17) := ⟨⟨by decide +kernel, by decide +kernel⟩, List.mem_of_getElem? (i := 1039) (by decide +kernel), List.mem_of_getElem? (i := 1193) (by decide +kernel), List.mem_of_getElem? (i := 1194) (by decide +kernel)⟩
theorem lw_p41 : lw_okq (⟨"CreditBrokerModel", "letterOf", "(III)I"⟩, 17) := ⟨⟨by decide +kernel, by decide +kernel⟩, List.mem_of_getElem? (i := 1039) (by decide +kernel), List.mem_of_getElem? (i := 1197) (by decide +kernel), List.mem_of_getElem? (i := 1198) (by decide +kernel)⟩
theorem lw_p42 : lw_okq (⟨"CreditBrokerModel", "letterIs", "(IIII)V"⟩, 17) := ⟨⟨by decide +kernel, by decide +kernel⟩, List.mem_of_getElem? (i := 1039) (by decide +kernel), List.mem_of_getElem? (i := 1201) (by decide +kernel), List.mem_of_getElem? (i := 1202) (by decide +kernel)⟩
theorem lw_p43 : lw_okq (⟨"CreditBrokerModel", "gives", "(I)I"⟩, 17) := ⟨⟨by decide +kernel, by decide +kernel⟩, List.mem_of_getElem? (i := 1039) (by decide +kernel), List.mem_of_getElem? (i := 1209) (by decide +kernel), List.mem_of_getElem? (i := 1210) (by decide +kernel)⟩
theorem lw_p44 : lw_okq (⟨"CreditBrokerModel", "nextOf", "(I)I"⟩, 17) := ⟨⟨by decide +kernel, by decide +kernel⟩, List.mem_of_getElem? (i := 1039) (by decide +kernel), List.mem_of_getElem? (i := 1213) (by decide +kernel), List.mem_of_getElem? (i := 1214) (by decide +kernel)⟩
theorem lw_p45 : lw_okq (⟨"CreditBrokerModel", "may", "(II)Z"⟩, 17) := ⟨⟨by decide +kernel, by decide +kernel⟩, List.mem_of_getElem? (i := 1039) (by decide +kernel), List.mem_of_getElem? (i := 1217) (by decide +kernel), List.mem_of_getElem? (i := 1218) (by decide +kernel)⟩
theorem lw_p46 : lw_okq (⟨"CreditBrokerModel", "keyOf", "(II)I"⟩, 17) := ⟨⟨by decide +kernel, by decide +kernel⟩, List.mem_of_getElem? (i := 1039) (by decide +kernel), List.mem_of_getElem? (i := 1221) (by decide +kernel), List.mem_of_getElem? (i := 1222) (by decide +kernel)⟩
theorem lw_p47 : lw_okq (⟨"CreditBrokerModel", "message", "(II)I"⟩, 17) := ⟨⟨by decide +kernel, by decide +kernel⟩, List.mem_of_getElem? (i := 1039) (by decide +kernel), List.mem_of_getElem? (i := 1225) (by decide +kernel), List.mem_of_getElem? (i := 1226) (by decide +kernel)⟩
def lw_privs_3 : List (MethodName × Nat) := [(⟨"CreditBrokerModel", "isFit", "(I)Z"⟩, 17), (⟨"CreditBrokerModel", "isLong", "(II)Z"⟩, 17), (⟨"CreditBrokerModel", "of", "(II)I"⟩, 17), (⟨"CreditBrokerModel", "partOf", "(II)I"⟩, 17), (⟨"CreditBrokerModel", "isQueue", "(I)Z"⟩, 17), (⟨"CreditBrokerModel", "publishes", "(III)I"⟩, 17), (⟨"CreditBrokerModel", "newDead", "(II)I"⟩, 17), (⟨"CreditBrokerModel", "ahead", "(IIII)V"⟩, 17), (⟨"CreditBrokerModel", "comes", "(II)V"⟩, 17), (⟨"CreditBrokerModel", "letterOf", "(III)I"⟩, 17), (⟨"CreditBrokerModel", "letterIs", "(IIII)V"⟩, 17), (⟨"CreditBrokerModel", "gives", "(I)I"⟩, 17), (⟨"CreditBrokerModel", "nextOf", "(I)I"⟩, 17), (⟨"CreditBrokerModel", "may", "(II)Z"⟩, 17), (⟨"CreditBrokerModel", "keyOf", "(II)I"⟩, 17), (⟨"CreditBrokerModel", "message", "(II)I"⟩, 17)]
theorem lw_r3 : ∀ q ∈ lw_privs_3, lw_okq q := List.forall_mem_cons.mpr ⟨lw_p32, List.forall_mem_cons.mpr ⟨lw_p33, List.forall_mem_cons.mpr ⟨lw_p34, List.forall_mem_cons.mpr ⟨lw_p35, List.forall_mem_cons.mpr ⟨lw_p36, List.forall_mem_cons.mpr ⟨lw_p37, List.forall_mem_cons.mpr ⟨lw_p38, List.forall_mem_cons.mpr ⟨lw_p39, List.forall_mem_cons.mpr ⟨lw_p40, List.forall_mem_cons.mpr ⟨lw_p41, List.forall_mem_cons.mpr ⟨lw_p42, List.forall_mem_cons.mpr ⟨lw_p43, List.forall_mem_cons.mpr ⟨lw_p44, List.forall_mem_cons.mpr ⟨lw_p45, List.forall_mem_cons.mpr ⟨lw_p46, List.forall_mem_cons.mpr ⟨lw_p47, fun _ h => absurd h List.not_mem_nil⟩⟩⟩⟩⟩⟩⟩⟩⟩⟩⟩⟩⟩⟩⟩⟩
theorem lw_p48 : lw_okq (⟨"CreditBrokerModel", "who", "(I)I"⟩, 17) := ⟨⟨by decide +kernel, by decide +kernel⟩, List.mem_of_getElem? (i := 1039) (by decide +kernel), List.mem_of_getElem? (i := 1229) (by decide +kernel), List.mem_of_getElem? (i := 1230) (by decide +kernel)⟩
theorem lw_p49 : lw_okq (⟨"CreditBrokerModel", "isHere", "(I)Z"⟩, 17) := ⟨⟨by decide +kernel, by decide +kernel⟩, List.mem_of_getElem? (i := 1039) (by decide +kernel), List.mem_of_getElem? (i := 1233) (by decide +kernel), List.mem_of_getElem? (i := 1234) (by decide +kernel)⟩
theorem lw_p50 : lw_okq (⟨"CreditBrokerModel", "isConsumer", "(I)Z"⟩, 17) := ⟨⟨by decide +kernel, by decide +kernel⟩, List.mem_of_getElem? (i := 1039) (by decide +kernel), List.mem_of_getElem? (i := 1237) (by decide +kernel), List.mem_of_getElem? (i := 1238) (by decide +kernel)⟩
theorem lw_p51 : lw_okq (⟨"CreditBrokerModel", "ofConsumer", "(II)I"⟩, 17) := ⟨⟨by decide +kernel, by decide +kernel⟩, List.mem_of_getElem? (i := 1039) (by decide +kernel), List.mem_of_getElem? (i := 1241) (by decide +kernel), List.mem_of_getElem? (i := 1242) (by decide +kernel)⟩
theorem lw_p52 : lw_okq (⟨"CreditBrokerModel", "outAt", "(II)I"⟩, 17) := ⟨⟨by decide +kernel, by decide +kernel⟩, List.mem_of_getElem? (i := 1039) (by decide +kernel), List.mem_of_getElem? (i := 1253) (by decide +kernel), List.mem_of_getElem? (i := 1254) (by decide +kernel)⟩
theorem lw_p53 : lw_okq (⟨"CreditBrokerModel", "acks", "(II)V"⟩, 17) := ⟨⟨by decide +kernel, by decide +kernel⟩, List.mem_of_getElem? (i := 1039) (by decide +kernel), List.mem_of_getElem? (i := 1257) (by decide +kernel), List.mem_of_getElem? (i := 1258) (by decide +kernel)⟩
theorem lw_p54 : lw_okq (⟨"CreditBrokerModel", "goes", "(II)V"⟩, 17) := ⟨⟨by decide +kernel, by decide +kernel⟩, List.mem_of_getElem? (i := 1039) (by decide +kernel), List.mem_of_getElem? (i := 1261) (by decide +kernel), List.mem_of_getElem? (i := 1262) (by decide +kernel)⟩
theorem lw_p55 : lw_okq (⟨"CreditBrokerModel", "credits", "(I)V"⟩, 17) := ⟨⟨by decide +kernel, by decide +kernel⟩, List.mem_of_getElem? (i := 1039) (by decide +kernel), List.mem_of_getElem? (i := 1265) (by decide +kernel), List.mem_of_getElem? (i := 1266) (by decide +kernel)⟩
theorem lw_p56 : lw_okq (⟨"CreditBrokerModel", "outOf", "(I)I"⟩, 17) := ⟨⟨by decide +kernel, by decide +kernel⟩, List.mem_of_getElem? (i := 1039) (by decide +kernel), List.mem_of_getElem? (i := 1270) (by decide +kernel), List.mem_of_getElem? (i := 1271) (by decide +kernel)⟩
theorem lw_p57 : lw_okq (⟨"CreditBrokerModel", "refuses", "(II)I"⟩, 17) := ⟨⟨by decide +kernel, by decide +kernel⟩, List.mem_of_getElem? (i := 1039) (by decide +kernel), List.mem_of_getElem? (i := 1278) (by decide +kernel), List.mem_of_getElem? (i := 1279) (by decide +kernel)⟩
theorem lw_p58 : lw_okq (⟨"CreditBrokerModel", "fails", "(IIII)Z"⟩, 17) := ⟨⟨by decide +kernel, by decide +kernel⟩, List.mem_of_getElem? (i := 1039) (by decide +kernel), List.mem_of_getElem? (i := 1282) (by decide +kernel), List.mem_of_getElem? (i := 1283) (by decide +kernel)⟩
theorem lw_p59 : lw_okq (⟨"CreditBrokerModel", "dies", "(IIII)V"⟩, 17) := ⟨⟨by decide +kernel, by decide +kernel⟩, List.mem_of_getElem? (i := 1039) (by decide +kernel), List.mem_of_getElem? (i := 1286) (by decide +kernel), List.mem_of_getElem? (i := 1287) (by decide +kernel)⟩
theorem lw_p60 : lw_okq (⟨"CreditBrokerModel", "passes", "(I)I"⟩, 17) := ⟨⟨by decide +kernel, by decide +kernel⟩, List.mem_of_getElem? (i := 1039) (by decide +kernel), List.mem_of_getElem? (i := 1311) (by decide +kernel), List.mem_of_getElem? (i := 1312) (by decide +kernel)⟩
theorem lw_p61 : lw_okq (⟨"CreditBrokerModel", "ages", "(II)Z"⟩, 17) := ⟨⟨by decide +kernel, by decide +kernel⟩, List.mem_of_getElem? (i := 1039) (by decide +kernel), List.mem_of_getElem? (i := 1315) (by decide +kernel), List.mem_of_getElem? (i := 1316) (by decide +kernel)⟩
theorem lw_p62 : lw_okq (⟨"CreditBrokerModel", "losesDead", "(I)V"⟩, 17) := ⟨⟨by decide +kernel, by decide +kernel⟩, List.mem_of_getElem? (i := 1039) (by decide +kernel), List.mem_of_getElem? (i := 1323) (by decide +kernel), List.mem_of_getElem? (i := 1324) (by decide +kernel)⟩
theorem lw_p63 : lw_okq (⟨"CreditBrokerModel", "lettersOf", "(II)I"⟩, 17) := ⟨⟨by decide +kernel, by decide +kernel⟩, List.mem_of_getElem? (i := 1039) (by decide +kernel), List.mem_of_getElem? (i := 1340) (by decide +kernel), List.mem_of_getElem? (i := 1341) (by decide +kernel)⟩
def lw_privs_4 : List (MethodName × Nat) := [(⟨"CreditBrokerModel", "who", "(I)I"⟩, 17), (⟨"CreditBrokerModel", "isHere", "(I)Z"⟩, 17), (⟨"CreditBrokerModel", "isConsumer", "(I)Z"⟩, 17), (⟨"CreditBrokerModel", "ofConsumer", "(II)I"⟩, 17), (⟨"CreditBrokerModel", "outAt", "(II)I"⟩, 17), (⟨"CreditBrokerModel", "acks", "(II)V"⟩, 17), (⟨"CreditBrokerModel", "goes", "(II)V"⟩, 17), (⟨"CreditBrokerModel", "credits", "(I)V"⟩, 17), (⟨"CreditBrokerModel", "outOf", "(I)I"⟩, 17), (⟨"CreditBrokerModel", "refuses", "(II)I"⟩, 17), (⟨"CreditBrokerModel", "fails", "(IIII)Z"⟩, 17), (⟨"CreditBrokerModel", "dies", "(IIII)V"⟩, 17), (⟨"CreditBrokerModel", "passes", "(I)I"⟩, 17), (⟨"CreditBrokerModel", "ages", "(II)Z"⟩, 17), (⟨"CreditBrokerModel", "losesDead", "(I)V"⟩, 17), (⟨"CreditBrokerModel", "lettersOf", "(II)I"⟩, 17)]
theorem lw_r4 : ∀ q ∈ lw_privs_4, lw_okq q := List.forall_mem_cons.mpr ⟨lw_p48, List.forall_mem_cons.mpr ⟨lw_p49, List.forall_mem_cons.mpr ⟨lw_p50, List.forall_mem_cons.mpr ⟨lw_p51, List.forall_mem_cons.mpr ⟨lw_p52, List.forall_mem_cons.mpr ⟨lw_p53, List.forall_mem_cons.mpr ⟨lw_p54, List.forall_mem_cons.mpr ⟨lw_p55, List.forall_mem_cons.mpr ⟨lw_p56, List.forall_mem_cons.mpr ⟨lw_p57, List.forall_mem_cons.mpr ⟨lw_p58, List.forall_mem_cons.mpr ⟨lw_p59, List.forall_mem_cons.mpr ⟨lw_p60, List.forall_mem_cons.mpr ⟨lw_p61, List.forall_mem_cons.mpr ⟨lw_p62, List.forall_mem_cons.mpr ⟨lw_p63, fun _ h => absurd h List.not_mem_nil⟩⟩⟩⟩⟩⟩⟩⟩⟩⟩⟩⟩⟩⟩⟩⟩
theorem lw_p64 : lw_okq (⟨"CreditBrokerModel", "mayMany", "(I)I"⟩, 17) := ⟨⟨by decide +kernel, by decide +kernel⟩, List.mem_of_getElem? (i := 1039) (by decide +kernel), List.mem_of_getElem? (i := 1344) (by decide +kernel), List.mem_of_getElem? (i := 1345) (by decide +kernel)⟩
theorem lw_p65 : lw_okq (⟨"CreditBrokerModel", "consumersOf", "(IZ)I"⟩, 17) := ⟨⟨by decide +kernel, by decide +kernel⟩, List.mem_of_getElem? (i := 1039) (by decide +kernel), List.mem_of_getElem? (i := 1348) (by decide +kernel), List.mem_of_getElem? (i := 1349) (by decide +kernel)⟩
theorem lw_p66 : lw_okq (⟨"CreditBrokerModel", "isCause", "(II)Z"⟩, 17) := ⟨⟨by decide +kernel, by decide +kernel⟩, List.mem_of_getElem? (i := 1039) (by decide +kernel), List.mem_of_getElem? (i := 1377) (by decide +kernel), List.mem_of_getElem? (i := 1378) (by decide +kernel)⟩
theorem lw_p67 : lw_okq (⟨"CreditBrokerModel", "drains", "(I)V"⟩, 17) := ⟨⟨by decide +kernel, by decide +kernel⟩, List.mem_of_getElem? (i := 1039) (by decide +kernel), List.mem_of_getElem? (i := 1393) (by decide +kernel), List.mem_of_getElem? (i := 1394) (by decide +kernel)⟩
theorem lw_p68 : lw_okq (⟨"CreditBrokerModel", "draw", "(I)I"⟩, 17) := ⟨⟨by decide +kernel, by decide +kernel⟩, List.mem_of_getElem? (i := 1039) (by decide +kernel), List.mem_of_getElem? (i := 1456) (by decide +kernel), List.mem_of_getElem? (i := 1457) (by decide +kernel)⟩
theorem lw_p69 : lw_okq (⟨"CreditBrokerModel", "isDay", "(I)Z"⟩, 17) := ⟨⟨by decide +kernel, by decide +kernel⟩, List.mem_of_getElem? (i := 1039) (by decide +kernel), List.mem_of_getElem? (i := 1461) (by decide +kernel), List.mem_of_getElem? (i := 1462) (by decide +kernel)⟩
theorem lw_p70 : lw_okq (⟨"CreditBrokerModel", "sum", "(Z)I"⟩, 17) := ⟨⟨by decide +kernel, by decide +kernel⟩, List.mem_of_getElem? (i := 1039) (by decide +kernel), List.mem_of_getElem? (i := 1481) (by decide +kernel), List.mem_of_getElem? (i := 1482) (by decide +kernel)⟩
theorem lw_p71 : lw_okq (⟨"CreditBrokerModel", "heldShelves", "()I"⟩, 17) := ⟨⟨by decide +kernel, by decide +kernel⟩, List.mem_of_getElem? (i := 1039) (by decide +kernel), List.mem_of_getElem? (i := 1485) (by decide +kernel), List.mem_of_getElem? (i := 1486) (by decide +kernel)⟩
def lw_privs_5 : List (MethodName × Nat) := [(⟨"CreditBrokerModel", "mayMany", "(I)I"⟩, 17), (⟨"CreditBrokerModel", "consumersOf", "(IZ)I"⟩, 17), (⟨"CreditBrokerModel", "isCause", "(II)Z"⟩, 17), (⟨"CreditBrokerModel", "drains", "(I)V"⟩, 17), (⟨"CreditBrokerModel", "draw", "(I)I"⟩, 17), (⟨"CreditBrokerModel", "isDay", "(I)Z"⟩, 17), (⟨"CreditBrokerModel", "sum", "(Z)I"⟩, 17), (⟨"CreditBrokerModel", "heldShelves", "()I"⟩, 17)]
theorem lw_r5 : ∀ q ∈ lw_privs_5, lw_okq q := List.forall_mem_cons.mpr ⟨lw_p64, List.forall_mem_cons.mpr ⟨lw_p65, List.forall_mem_cons.mpr ⟨lw_p66, List.forall_mem_cons.mpr ⟨lw_p67, List.forall_mem_cons.mpr ⟨lw_p68, List.forall_mem_cons.mpr ⟨lw_p69, List.forall_mem_cons.mpr ⟨lw_p70, List.forall_mem_cons.mpr ⟨lw_p71, fun _ h => absurd h List.not_mem_nil⟩⟩⟩⟩⟩⟩⟩⟩
def lw_privs : List (MethodName × Nat) := lw_privs_1 ++ (lw_privs_2 ++ (lw_privs_3 ++ (lw_privs_4 ++ (lw_privs_5))))
def lw_tbl : List Cond := k2_sels lw_privs ++ tables_1
theorem lw_privs_ok : ∀ q ∈ lw_privs, lw_okq q := by
  show ∀ q ∈ lw_privs_1 ++ (lw_privs_2 ++ (lw_privs_3 ++ (lw_privs_4 ++ (lw_privs_5)))), lw_okq q
  exact List.forall_mem_append.mpr ⟨lw_r1, List.forall_mem_append.mpr ⟨lw_r2, List.forall_mem_append.mpr ⟨lw_r3, List.forall_mem_append.mpr ⟨lw_r4, lw_r5⟩⟩⟩⟩

def RX0 : String := "CreditBroker$Cause"
def TX0 : u_T := fun k => match k with
  | 0 => ("CreditBroker$Cause", "kind", "I", true)
  | 1 => ("CreditBroker$Cause", "time", "I", true)
  | 2 => ("CreditBroker$Cause", "failed", "I", true)
  | 3 => ("CreditBroker$Cause", "detail", "I", true)
  | 4 => ("CreditBroker$Cause", "causesBehind", "I", true)
  | _ => ("CreditBroker$Cause", "causedBy", "LCreditBroker$Cause;", true)
def tyX0 : Nat → FieldType := fun k => match k with
  | 0 => .int
  | 1 => .int
  | 2 => .int
  | 3 => .int
  | 4 => .int
  | _ => .object "CreditBroker$Cause"
abbrev wsX00 : List Cond := u_ws RX0 TX0 6
theorem nmX0 : ∀ a, a < 6 → ∀ b, b < 6 → a ≠ b → (TX0 a).2.1 ≠ (TX0 b).2.1 := by decide +kernel
theorem tyX0_ok : ∀ k, k < 6 → parseFieldDescriptor (TX0 k).2.2.1 = some (tyX0 k) := by decide +kernel
abbrev cX0_init : ByteArray := prog_2_method_1_code
def yX0_init : MethodName := ⟨RX0, "<init>", "(IIIILCreditBroker$Cause;)V"⟩
abbrev cX0_isOf : ByteArray := prog_2_method_2_code
def yX0_isOf : MethodName := ⟨RX0, "isOf", "(I)Z"⟩
abbrev cX0_toldAs : ByteArray := prog_2_method_3_code
def yX0_toldAs : MethodName := ⟨RX0, "toldAs", "(I)I"⟩
def RX1 : String := "CreditBroker$Consumer"
def TX1 : u_T := fun k => match k with
  | 0 => ("CreditBroker$Consumer", "number", "I", true)
  | 1 => ("CreditBroker$Consumer", "queue", "I", false)
  | 2 => ("CreditBroker$Consumer", "credits", "I", false)
  | 3 => ("CreditBroker$Consumer", "got", "I", false)
  | _ => ("CreditBroker$Consumer", "hasLeft", "Z", false)
def tyX1 : Nat → FieldType := fun k => match k with
  | 0 => .int
  | 1 => .int
  | 2 => .int
  | 3 => .int
  | _ => .boolean
abbrev wsX10 : List Cond := u_ws RX1 TX1 5
theorem nmX1 : ∀ a, a < 5 → ∀ b, b < 5 → a ≠ b → (TX1 a).2.1 ≠ (TX1 b).2.1 := by decide +kernel
theorem tyX1_ok : ∀ k, k < 5 → parseFieldDescriptor (TX1 k).2.2.1 = some (tyX1 k) := by decide +kernel
abbrev cX1_init : ByteArray := prog_3_method_1_code
def yX1_init : MethodName := ⟨RX1, "<init>", "(I)V"⟩
abbrev cX1_begin : ByteArray := prog_3_method_2_code
def yX1_begin : MethodName := ⟨RX1, "begin", "(I)V"⟩
abbrev cX1_takeFrom : ByteArray := prog_3_method_3_code
def yX1_takeFrom : MethodName := ⟨RX1, "takeFrom", "(LCreditBroker$Consumer;)V"⟩
abbrev cX1_isAt : ByteArray := prog_3_method_4_code
def yX1_isAt : MethodName := ⟨RX1, "isAt", "(I)Z"⟩
def RX2 : String := "CreditBroker$Dead"
def TX2 : u_T := fun k => match k with
  | 0 => ("CreditBroker$Dead", "message", "I", false)
  | 1 => ("CreditBroker$Dead", "queue", "I", false)
  | 2 => ("CreditBroker$Dead", "time", "I", false)
  | _ => ("CreditBroker$Dead", "cause", "LCreditBroker$Cause;", false)
def tyX2 : Nat → FieldType := fun k => match k with
  | 0 => .int
  | 1 => .int
  | 2 => .int
  | _ => .object "CreditBroker$Cause"
abbrev wsX20 : List Cond := u_ws RX2 TX2 4
theorem nmX2 : ∀ a, a < 4 → ∀ b, b < 4 → a ≠ b → (TX2 a).2.1 ≠ (TX2 b).2.1 := by decide +kernel
theorem tyX2_ok : ∀ k, k < 4 → parseFieldDescriptor (TX2 k).2.2.1 = some (tyX2 k) := by decide +kernel
abbrev cX2_init : ByteArray := prog_4_method_1_code
def yX2_init : MethodName := ⟨RX2, "<init>", "()V"⟩
abbrev cX2_begin : ByteArray := prog_4_method_2_code
def yX2_begin : MethodName := ⟨RX2, "begin", "(IIILCreditBroker$Cause;)V"⟩
abbrev cX2_takeFrom : ByteArray := prog_4_method_3_code
def yX2_takeFrom : MethodName := ⟨RX2, "takeFrom", "(LCreditBroker$Dead;)V"⟩
abbrev cX2_countCauses : ByteArray := prog_4_method_4_code
def yX2_countCauses : MethodName := ⟨RX2, "countCauses", "()I"⟩
def RX3 : String := "CreditBroker$Letter"
def TX3 : u_T := fun k => match k with
  | 0 => ("CreditBroker$Letter", "message", "I", false)
  | 1 => ("CreditBroker$Letter", "key", "I", false)
  | 2 => ("CreditBroker$Letter", "priority", "I", false)
  | 3 => ("CreditBroker$Letter", "published", "I", false)
  | 4 => ("CreditBroker$Letter", "state", "I", false)
  | 5 => ("CreditBroker$Letter", "failed", "I", false)
  | 6 => ("CreditBroker$Letter", "consumer", "I", false)
  | 7 => ("CreditBroker$Letter", "till", "I", false)
  | _ => ("CreditBroker$Letter", "cause", "LCreditBroker$Cause;", false)
def tyX3 : Nat → FieldType := fun k => match k with
  | 0 => .int
  | 1 => .int
  | 2 => .int
  | 3 => .int
  | 4 => .int
  | 5 => .int
  | 6 => .int
  | 7 => .int
  | _ => .object "CreditBroker$Cause"
abbrev wsX30 : List Cond := u_ws RX3 TX3 9
theorem nmX3 : ∀ a, a < 9 → ∀ b, b < 9 → a ≠ b → (TX3 a).2.1 ≠ (TX3 b).2.1 := by decide +kernel
theorem tyX3_ok : ∀ k, k < 9 → parseFieldDescriptor (TX3 k).2.2.1 = some (tyX3 k) := by decide +kernel
abbrev cX3_init : ByteArray := prog_5_method_1_code
def yX3_init : MethodName := ⟨RX3, "<init>", "()V"⟩
abbrev cX3_begin : ByteArray := prog_5_method_2_code
def yX3_begin : MethodName := ⟨RX3, "begin", "(LCreditBroker$Messages;I)V"⟩
abbrev cX3_takeFrom : ByteArray := prog_5_method_3_code
def yX3_takeFrom : MethodName := ⟨RX3, "takeFrom", "(LCreditBroker$Letter;)V"⟩
abbrev cX3_isOutWith : ByteArray := prog_5_method_4_code
def yX3_isOutWith : MethodName := ⟨RX3, "isOutWith", "(I)Z"⟩
abbrev cX3_makeReady : ByteArray := prog_5_method_5_code
def yX3_makeReady : MethodName := ⟨RX3, "makeReady", "()V"⟩
abbrev cX3_rest : ByteArray := prog_5_method_6_code
def yX3_rest : MethodName := ⟨RX3, "rest", "(I)V"⟩
abbrev cX3_goOut : ByteArray := prog_5_method_7_code
def yX3_goOut : MethodName := ⟨RX3, "goOut", "(II)V"⟩
def RX4 : String := "CreditBroker$Messages"
def TX4 : u_T := fun k => match k with
  | 0 => ("CreditBroker$Messages", "keys", "[I", true)
  | 1 => ("CreditBroker$Messages", "priorities", "[I", true)
  | 2 => ("CreditBroker$Messages", "values", "[I", true)
  | 3 => ("CreditBroker$Messages", "times", "[I", true)
  | _ => ("CreditBroker$Messages", "parts", "[I", true)
def tyX4 : Nat → FieldType := fun k => match k with
  | 0 => .array .int
  | 1 => .array .int
  | 2 => .array .int
  | 3 => .array .int
  | _ => .array .int
abbrev wsX40 : List Cond := u_ws RX4 TX4 5
theorem nmX4 : ∀ a, a < 5 → ∀ b, b < 5 → a ≠ b → (TX4 a).2.1 ≠ (TX4 b).2.1 := by decide +kernel
theorem tyX4_ok : ∀ k, k < 5 → parseFieldDescriptor (TX4 k).2.2.1 = some (tyX4 k) := by decide +kernel
abbrev cX4_init : ByteArray := prog_6_method_1_code
def yX4_init : MethodName := ⟨RX4, "<init>", "()V"⟩
abbrev cX4_put : ByteArray := prog_6_method_2_code
def yX4_put : MethodName := ⟨RX4, "put", "(IIIIII)V"⟩
def RX5 : String := "CreditBroker$Pattern"
def TX5 : u_T := fun k => match k with
  | 0 => ("CreditBroker$Pattern", "codes", "[I", true)
  | 1 => ("CreditBroker$Pattern", "text", "[I", true)
  | 2 => ("CreditBroker$Pattern", "textSize", "I", false)
  | 3 => ("CreditBroker$Pattern", "parts", "I", false)
  | 4 => ("CreditBroker$Pattern", "endsOpen", "Z", false)
  | _ => ("CreditBroker$Pattern", "partLetters", "I", false)
def tyX5 : Nat → FieldType := fun k => match k with
  | 0 => .array .int
  | 1 => .array .int
  | 2 => .int
  | 3 => .int
  | 4 => .boolean
  | _ => .int
abbrev wsX50 : List Cond := u_ws RX5 TX5 6
theorem nmX5 : ∀ a, a < 6 → ∀ b, b < 6 → a ≠ b → (TX5 a).2.1 ≠ (TX5 b).2.1 := by decide +kernel
theorem tyX5_ok : ∀ k, k < 6 → parseFieldDescriptor (TX5 k).2.2.1 = some (tyX5 k) := by decide +kernel
abbrev cX5_init : ByteArray := prog_7_method_1_code
def yX5_init : MethodName := ⟨RX5, "<init>", "()V"⟩
abbrev cX5_takeFrom : ByteArray := prog_7_method_2_code
def yX5_takeFrom : MethodName := ⟨RX5, "takeFrom", "(LCreditBroker$Pattern;)V"⟩
abbrev cX5_read : ByteArray := prog_7_method_3_code
def yX5_read : MethodName := ⟨RX5, "read", "(LCreditBroker$Tape;Z)I"⟩
abbrev cX5_begin : ByteArray := prog_7_method_4_code
def yX5_begin : MethodName := ⟨RX5, "begin", "()V"⟩
abbrev cX5_readByte : ByteArray := prog_7_method_5_code
def yX5_readByte : MethodName := ⟨RX5, "readByte", "(IZ)Z"⟩
abbrev cX5_readLetter : ByteArray := prog_7_method_6_code
def yX5_readLetter : MethodName := ⟨RX5, "readLetter", "(I)Z"⟩
abbrev cX5_readDot : ByteArray := prog_7_method_7_code
def yX5_readDot : MethodName := ⟨RX5, "readDot", "()Z"⟩
abbrev cX5_textAt : ByteArray := prog_7_method_8_code
def yX5_textAt : MethodName := ⟨RX5, "textAt", "(I)I"⟩
abbrev cX5_takesAllOf : ByteArray := prog_7_method_9_code
def yX5_takesAllOf : MethodName := ⟨RX5, "takesAllOf", "(LCreditBroker$Pattern;)Z"⟩
abbrev cX5_takesAllOfSize : ByteArray := prog_7_method_10_code
def yX5_takesAllOfSize : MethodName := ⟨RX5, "takesAllOfSize", "(LCreditBroker$Pattern;I)Z"⟩
abbrev cX5_takesSize : ByteArray := prog_7_method_11_code
def yX5_takesSize : MethodName := ⟨RX5, "takesSize", "(I)Z"⟩
abbrev cX5_takesAny : ByteArray := prog_7_method_12_code
def yX5_takesAny : MethodName := ⟨RX5, "takesAny", "(I)Z"⟩
def RX6 : String := "CreditBroker$Queue"
def TX6 : u_T := fun k => match k with
  | 0 => ("CreditBroker$Queue", "number", "I", true)
  | 1 => ("CreditBroker$Queue", "pattern", "LCreditBroker$Pattern;", true)
  | 2 => ("CreditBroker$Queue", "letters", "[LCreditBroker$Letter;", true)
  | 3 => ("CreditBroker$Queue", "count", "I", false)
  | 4 => ("CreditBroker$Queue", "limit", "I", false)
  | 5 => ("CreditBroker$Queue", "tries", "I", false)
  | 6 => ("CreditBroker$Queue", "lease", "I", false)
  | 7 => ("CreditBroker$Queue", "age", "I", false)
  | 8 => ("CreditBroker$Queue", "isExclusive", "Z", false)
  | 9 => ("CreditBroker$Queue", "latest", "I", false)
  | 10 => ("CreditBroker$Queue", "given", "I", false)
  | 11 => ("CreditBroker$Queue", "acknowledged", "I", false)
  | _ => ("CreditBroker$Queue", "died", "I", false)
def tyX6 : Nat → FieldType := fun k => match k with
  | 0 => .int
  | 1 => .object "CreditBroker$Pattern"
  | 2 => .array (.object "CreditBroker$Letter")
  | 3 => .int
  | 4 => .int
  | 5 => .int
  | 6 => .int
  | 7 => .int
  | 8 => .boolean
  | 9 => .int
  | 10 => .int
  | 11 => .int
  | _ => .int
abbrev wsX60 : List Cond := u_ws RX6 TX6 13
theorem nmX6 : ∀ a, a < 13 → ∀ b, b < 13 → a ≠ b → (TX6 a).2.1 ≠ (TX6 b).2.1 := by decide +kernel
theorem tyX6_ok : ∀ k, k < 13 → parseFieldDescriptor (TX6 k).2.2.1 = some (tyX6 k) := by decide +kernel
abbrev cX6_init : ByteArray := prog_8_method_1_code
def yX6_init : MethodName := ⟨RX6, "<init>", "(I)V"⟩
abbrev cX6_begin : ByteArray := prog_8_method_2_code
def yX6_begin : MethodName := ⟨RX6, "begin", "(LCreditBroker$Pattern;IIII)V"⟩
abbrev cX6_takeFrom : ByteArray := prog_8_method_3_code
def yX6_takeFrom : MethodName := ⟨RX6, "takeFrom", "(LCreditBroker$Queue;)V"⟩
abbrev cX6_isFull : ByteArray := prog_8_method_4_code
def yX6_isFull : MethodName := ⟨RX6, "isFull", "()Z"⟩
abbrev cX6_letterAt : ByteArray := prog_8_method_5_code
def yX6_letterAt : MethodName := ⟨RX6, "letterAt", "(I)LCreditBroker$Letter;"⟩
abbrev cX6_insert : ByteArray := prog_8_method_6_code
def yX6_insert : MethodName := ⟨RX6, "insert", "(LCreditBroker$Messages;I)V"⟩
abbrev cX6_removeAt : ByteArray := prog_8_method_7_code
def yX6_removeAt : MethodName := ⟨RX6, "removeAt", "(I)V"⟩
abbrev cX6_countIn : ByteArray := prog_8_method_8_code
def yX6_countIn : MethodName := ⟨RX6, "countIn", "(I)I"⟩
abbrev cX6_dropWaiting : ByteArray := prog_8_method_9_code
def yX6_dropWaiting : MethodName := ⟨RX6, "dropWaiting", "()I"⟩
abbrev cX6_placeOf : ByteArray := prog_8_method_10_code
def yX6_placeOf : MethodName := ⟨RX6, "placeOf", "(I)I"⟩
abbrev cX6_placeOut : ByteArray := prog_8_method_11_code
def yX6_placeOut : MethodName := ⟨RX6, "placeOut", "(II)I"⟩
abbrev cX6_nthOut : ByteArray := prog_8_method_12_code
def yX6_nthOut : MethodName := ⟨RX6, "nthOut", "(II)I"⟩
abbrev cX6_countOut : ByteArray := prog_8_method_13_code
def yX6_countOut : MethodName := ⟨RX6, "countOut", "(I)I"⟩
abbrev cX6_takeBack : ByteArray := prog_8_method_14_code
def yX6_takeBack : MethodName := ⟨RX6, "takeBack", "(I)I"⟩
abbrev cX6_mayGoBut : ByteArray := prog_8_method_15_code
def yX6_mayGoBut : MethodName := ⟨RX6, "mayGoBut", "(II)Z"⟩
abbrev cX6_isGone : ByteArray := prog_8_method_16_code
def yX6_isGone : MethodName := ⟨RX6, "isGone", "(II)Z"⟩
abbrev cX6_nextBut : ByteArray := prog_8_method_17_code
def yX6_nextBut : MethodName := ⟨RX6, "nextBut", "(I)I"⟩
abbrev cX6_countMayGo : ByteArray := prog_8_method_18_code
def yX6_countMayGo : MethodName := ⟨RX6, "countMayGo", "()I"⟩
abbrev cX6_blockedKeys : ByteArray := prog_8_method_19_code
def yX6_blockedKeys : MethodName := ⟨RX6, "blockedKeys", "()I"⟩
abbrev cX6_drainedAt : ByteArray := prog_8_method_20_code
def yX6_drainedAt : MethodName := ⟨RX6, "drainedAt", "(I)I"⟩
abbrev cX6_withNext : ByteArray := prog_8_method_21_code
def yX6_withNext : MethodName := ⟨RX6, "withNext", "(I)I"⟩
abbrev cX6_firstWrong : ByteArray := prog_8_method_22_code
def yX6_firstWrong : MethodName := ⟨RX6, "firstWrong", "([JI)I"⟩
abbrev cX6_readyTime : ByteArray := prog_8_method_23_code
def yX6_readyTime : MethodName := ⟨RX6, "readyTime", "(LCreditBroker$Letter;I)I"⟩
abbrev cX6_goneTime : ByteArray := prog_8_method_24_code
def yX6_goneTime : MethodName := ⟨RX6, "goneTime", "(LCreditBroker$Letter;I)I"⟩
abbrev cX6_nextTime : ByteArray := prog_8_method_25_code
def yX6_nextTime : MethodName := ⟨RX6, "nextTime", "(I)I"⟩
abbrev cX6_openTime : ByteArray := prog_8_method_26_code
def yX6_openTime : MethodName := ⟨RX6, "openTime", "(II)I"⟩
abbrev cX6_waitAfter : ByteArray := prog_8_method_27_code
def yX6_waitAfter : MethodName := ⟨RX6, "waitAfter", "(I)I"⟩
def RX7 : String := "CreditBroker$Shelf"
def TX7 : u_T := fun k => match k with
  | 0 => ("CreditBroker$Shelf", "cells", "[J", true)
  | 1 => ("CreditBroker$Shelf", "sort", "I", false)
  | 2 => ("CreditBroker$Shelf", "size", "I", false)
  | _ => ("CreditBroker$Shelf", "shown", "LCreditBroker$Cause;", false)
def tyX7 : Nat → FieldType := fun k => match k with
  | 0 => .array .long
  | 1 => .int
  | 2 => .int
  | _ => .object "CreditBroker$Cause"
abbrev wsX70 : List Cond := u_ws RX7 TX7 4
theorem nmX7 : ∀ a, a < 4 → ∀ b, b < 4 → a ≠ b → (TX7 a).2.1 ≠ (TX7 b).2.1 := by decide +kernel
theorem tyX7_ok : ∀ k, k < 4 → parseFieldDescriptor (TX7 k).2.2.1 = some (tyX7 k) := by decide +kernel
abbrev cX7_init : ByteArray := prog_9_method_1_code
def yX7_init : MethodName := ⟨RX7, "<init>", "()V"⟩
abbrev cX7_isRow : ByteArray := prog_9_method_2_code
def yX7_isRow : MethodName := ⟨RX7, "isRow", "()Z"⟩
abbrev cX7_holdNothing : ByteArray := prog_9_method_3_code
def yX7_holdNothing : MethodName := ⟨RX7, "holdNothing", "()V"⟩
abbrev cX7_holdRow : ByteArray := prog_9_method_4_code
def yX7_holdRow : MethodName := ⟨RX7, "holdRow", "(II)V"⟩
abbrev cX7_holdCause : ByteArray := prog_9_method_5_code
def yX7_holdCause : MethodName := ⟨RX7, "holdCause", "(LCreditBroker$Cause;)V"⟩
abbrev cX7_hasRun : ByteArray := prog_9_method_6_code
def yX7_hasRun : MethodName := ⟨RX7, "hasRun", "(II)Z"⟩
def RX8 : String := "CreditBroker$Tape"
def TX8 : u_T := fun k => match k with
  | 0 => ("CreditBroker$Tape", "bytes", "[I", true)
  | _ => ("CreditBroker$Tape", "size", "I", false)
def tyX8 : Nat → FieldType := fun k => match k with
  | 0 => .array .int
  | _ => .int
abbrev wsX80 : List Cond := u_ws RX8 TX8 2
theorem nmX8 : ∀ a, a < 2 → ∀ b, b < 2 → a ≠ b → (TX8 a).2.1 ≠ (TX8 b).2.1 := by decide +kernel
theorem tyX8_ok : ∀ k, k < 2 → parseFieldDescriptor (TX8 k).2.2.1 = some (tyX8 k) := by decide +kernel
abbrev cX8_init : ByteArray := prog_10_method_1_code
def yX8_init : MethodName := ⟨RX8, "<init>", "()V"⟩
abbrev cX8_add : ByteArray := prog_10_method_2_code
def yX8_add : MethodName := ⟨RX8, "add", "(I)V"⟩
def RX9 : String := "CreditBroker$World"
def TX9 : u_T := fun k => match k with
  | 0 => ("CreditBroker$World", "messages", "LCreditBroker$Messages;", true)
  | 1 => ("CreditBroker$World", "messageCount", "I", false)
  | 2 => ("CreditBroker$World", "queues", "[LCreditBroker$Queue;", true)
  | 3 => ("CreditBroker$World", "queueCount", "I", false)
  | 4 => ("CreditBroker$World", "consumers", "[LCreditBroker$Consumer;", true)
  | 5 => ("CreditBroker$World", "consumerCount", "I", false)
  | 6 => ("CreditBroker$World", "deadOnes", "[LCreditBroker$Dead;", true)
  | 7 => ("CreditBroker$World", "deadCount", "I", false)
  | 8 => ("CreditBroker$World", "topic", "LCreditBroker$Pattern;", true)
  | 9 => ("CreditBroker$World", "time", "I", false)
  | _ => ("CreditBroker$World", "seed", "I", false)
def tyX9 : Nat → FieldType := fun k => match k with
  | 0 => .object "CreditBroker$Messages"
  | 1 => .int
  | 2 => .array (.object "CreditBroker$Queue")
  | 3 => .int
  | 4 => .array (.object "CreditBroker$Consumer")
  | 5 => .int
  | 6 => .array (.object "CreditBroker$Dead")
  | 7 => .int
  | 8 => .object "CreditBroker$Pattern"
  | 9 => .int
  | _ => .int
abbrev wsX90 : List Cond := u_ws RX9 TX9 11
theorem nmX9 : ∀ a, a < 11 → ∀ b, b < 11 → a ≠ b → (TX9 a).2.1 ≠ (TX9 b).2.1 := by decide +kernel
theorem tyX9_ok : ∀ k, k < 11 → parseFieldDescriptor (TX9 k).2.2.1 = some (tyX9 k) := by decide +kernel
abbrev cX9_init : ByteArray := prog_11_method_1_code
def yX9_init : MethodName := ⟨RX9, "<init>", "(LCreditBroker$Messages;)V"⟩
abbrev cX9_takeFrom : ByteArray := prog_11_method_2_code
def yX9_takeFrom : MethodName := ⟨RX9, "takeFrom", "(LCreditBroker$World;)V"⟩
abbrev cX9_queueAt : ByteArray := prog_11_method_3_code
def yX9_queueAt : MethodName := ⟨RX9, "queueAt", "(I)LCreditBroker$Queue;"⟩
abbrev cX9_consumerAt : ByteArray := prog_11_method_4_code
def yX9_consumerAt : MethodName := ⟨RX9, "consumerAt", "(I)LCreditBroker$Consumer;"⟩
abbrev cX9_presentConsumer : ByteArray := prog_11_method_5_code
def yX9_presentConsumer : MethodName := ⟨RX9, "presentConsumer", "(I)LCreditBroker$Consumer;"⟩
abbrev cX9_homeOf : ByteArray := prog_11_method_6_code
def yX9_homeOf : MethodName := ⟨RX9, "homeOf", "(I)LCreditBroker$Queue;"⟩
abbrev cX9_deadAt : ByteArray := prog_11_method_7_code
def yX9_deadAt : MethodName := ⟨RX9, "deadAt", "(I)LCreditBroker$Dead;"⟩
abbrev cX9_newQueue : ByteArray := prog_11_method_8_code
def yX9_newQueue : MethodName := ⟨RX9, "newQueue", "()LCreditBroker$Queue;"⟩
abbrev cX9_newConsumer : ByteArray := prog_11_method_9_code
def yX9_newConsumer : MethodName := ⟨RX9, "newConsumer", "(I)I"⟩
abbrev cX9_send : ByteArray := prog_11_method_10_code
def yX9_send : MethodName := ⟨RX9, "send", "(III)I"⟩
abbrev cX9_fittingQueues : ByteArray := prog_11_method_11_code
def yX9_fittingQueues : MethodName := ⟨RX9, "fittingQueues", "()I"⟩
abbrev cX9_giveNext : ByteArray := prog_11_method_12_code
def yX9_giveNext : MethodName := ⟨RX9, "giveNext", "(LCreditBroker$Queue;)I"⟩
abbrev cX9_receiverIn : ByteArray := prog_11_method_13_code
def yX9_receiverIn : MethodName := ⟨RX9, "receiverIn", "(LCreditBroker$Queue;)I"⟩
abbrev cX9_firstPresent : ByteArray := prog_11_method_14_code
def yX9_firstPresent : MethodName := ⟨RX9, "firstPresent", "(I)I"⟩
abbrev cX9_acknowledge : ByteArray := prog_11_method_15_code
def yX9_acknowledge : MethodName := ⟨RX9, "acknowledge", "(LCreditBroker$Queue;I)V"⟩
abbrev cX9_returnCredit : ByteArray := prog_11_method_16_code
def yX9_returnCredit : MethodName := ⟨RX9, "returnCredit", "(I)V"⟩
abbrev cX9_fail : ByteArray := prog_11_method_17_code
def yX9_fail : MethodName := ⟨RX9, "fail", "(LCreditBroker$Queue;II)I"⟩
abbrev cX9_die : ByteArray := prog_11_method_18_code
def yX9_die : MethodName := ⟨RX9, "die", "(LCreditBroker$Queue;ILCreditBroker$Cause;)V"⟩
abbrev cX9_addDead : ByteArray := prog_11_method_19_code
def yX9_addDead : MethodName := ⟨RX9, "addDead", "(ILCreditBroker$Queue;LCreditBroker$Cause;)V"⟩
abbrev cX9_removeDead : ByteArray := prog_11_method_20_code
def yX9_removeDead : MethodName := ⟨RX9, "removeDead", "(I)V"⟩
abbrev cX9_reviveDead : ByteArray := prog_11_method_21_code
def yX9_reviveDead : MethodName := ⟨RX9, "reviveDead", "(ILCreditBroker$Queue;)V"⟩
abbrev cX9_forgetDead : ByteArray := prog_11_method_22_code
def yX9_forgetDead : MethodName := ⟨RX9, "forgetDead", "(I)I"⟩
abbrev cX9_letGo : ByteArray := prog_11_method_23_code
def yX9_letGo : MethodName := ⟨RX9, "letGo", "(LCreditBroker$Consumer;)I"⟩
abbrev cX9_tick : ByteArray := prog_11_method_24_code
def yX9_tick : MethodName := ⟨RX9, "tick", "()I"⟩
abbrev cX9_letTimeReach : ByteArray := prog_11_method_25_code
def yX9_letTimeReach : MethodName := ⟨RX9, "letTimeReach", "(LCreditBroker$Queue;I)V"⟩
abbrev cX9_actByDraws : ByteArray := prog_11_method_26_code
def yX9_actByDraws : MethodName := ⟨RX9, "actByDraws", "()Z"⟩
abbrev cX9_sendByDraws : ByteArray := prog_11_method_27_code
def yX9_sendByDraws : MethodName := ⟨RX9, "sendByDraws", "()Z"⟩
abbrev cX9_giveByDraw : ByteArray := prog_11_method_28_code
def yX9_giveByDraw : MethodName := ⟨RX9, "giveByDraw", "()Z"⟩
abbrev cX9_answerByDraw : ByteArray := prog_11_method_29_code
def yX9_answerByDraw : MethodName := ⟨RX9, "answerByDraw", "(Z)Z"⟩
abbrev cX9_draw : ByteArray := prog_11_method_30_code
def yX9_draw : MethodName := ⟨RX9, "draw", "(I)I"⟩
abbrev cX9_countPresent : ByteArray := prog_11_method_31_code
def yX9_countPresent : MethodName := ⟨RX9, "countPresent", "(I)I"⟩
abbrev cX9_creditsAt : ByteArray := prog_11_method_32_code
def yX9_creditsAt : MethodName := ⟨RX9, "creditsAt", "(I)I"⟩
abbrev cX9_countQueuesWith : ByteArray := prog_11_method_33_code
def yX9_countQueuesWith : MethodName := ⟨RX9, "countQueuesWith", "(I)I"⟩
abbrev cX9_countLetters : ByteArray := prog_11_method_34_code
def yX9_countLetters : MethodName := ⟨RX9, "countLetters", "()I"⟩
abbrev cX9_countGoneBy : ByteArray := prog_11_method_35_code
def yX9_countGoneBy : MethodName := ⟨RX9, "countGoneBy", "(I)I"⟩
def RX10 : String := "CreditBroker"
def TX10 : u_T := fun k => match k with
  | 0 => ("CreditBroker", "world", "LCreditBroker$World;", true)
  | 1 => ("CreditBroker", "tape", "LCreditBroker$Tape;", true)
  | 2 => ("CreditBroker", "draft", "LCreditBroker$Pattern;", true)
  | 3 => ("CreditBroker", "shelves", "[LCreditBroker$Shelf;", true)
  | 4 => ("CreditBroker", "refusals", "[I", true)
  | _ => ("CreditBroker", "kept", "LCreditBroker$World;", false)
def tyX10 : Nat → FieldType := fun k => match k with
  | 0 => .object "CreditBroker$World"
  | 1 => .object "CreditBroker$Tape"
  | 2 => .object "CreditBroker$Pattern"
  | 3 => .array (.object "CreditBroker$Shelf")
  | 4 => .array .int
  | _ => .object "CreditBroker$World"
abbrev wsX100 : List Cond := u_ws RX10 TX10 6
theorem nmX10 : ∀ a, a < 6 → ∀ b, b < 6 → a ≠ b → (TX10 a).2.1 ≠ (TX10 b).2.1 := by decide +kernel
theorem tyX10_ok : ∀ k, k < 6 → parseFieldDescriptor (TX10 k).2.2.1 = some (tyX10 k) := by decide +kernel
abbrev cX10_init : ByteArray := prog_1_method_1_code
def yX10_init : MethodName := ⟨RX10, "<init>", "()V"⟩
abbrev cX10_row : ByteArray := prog_1_method_2_code
def yX10_row : MethodName := ⟨RX10, "row", "(III)I"⟩
abbrev cX10_set : ByteArray := prog_1_method_3_code
def yX10_set : MethodName := ⟨RX10, "set", "(IIJ)I"⟩
abbrev cX10_copy : ByteArray := prog_1_method_4_code
def yX10_copy : MethodName := ⟨RX10, "copy", "(IIIII)I"⟩
abbrev cX10_element : ByteArray := prog_1_method_5_code
def yX10_element : MethodName := ⟨RX10, "element", "(II)J"⟩
abbrev cX10_holds : ByteArray := prog_1_method_6_code
def yX10_holds : MethodName := ⟨RX10, "holds", "(I)I"⟩
abbrev cX10_show : ByteArray := prog_1_method_7_code
def yX10_show : MethodName := ⟨RX10, "show", "(III)I"⟩
abbrev cX10_says : ByteArray := prog_1_method_8_code
def yX10_says : MethodName := ⟨RX10, "says", "(II)I"⟩
abbrev cX10_feed : ByteArray := prog_1_method_9_code
def yX10_feed : MethodName := ⟨RX10, "feed", "(I)I"⟩
abbrev cX10_wipe : ByteArray := prog_1_method_10_code
def yX10_wipe : MethodName := ⟨RX10, "wipe", "()I"⟩
abbrev cX10_topic : ByteArray := prog_1_method_11_code
def yX10_topic : MethodName := ⟨RX10, "topic", "()I"⟩
abbrev cX10_queue : ByteArray := prog_1_method_12_code
def yX10_queue : MethodName := ⟨RX10, "queue", "(IIII)I"⟩
abbrev cX10_exclusive : ByteArray := prog_1_method_13_code
def yX10_exclusive : MethodName := ⟨RX10, "exclusive", "(II)I"⟩
abbrev cX10_consumer : ByteArray := prog_1_method_14_code
def yX10_consumer : MethodName := ⟨RX10, "consumer", "(I)I"⟩
abbrev cX10_leave : ByteArray := prog_1_method_15_code
def yX10_leave : MethodName := ⟨RX10, "leave", "(I)I"⟩
abbrev cX10_credit : ByteArray := prog_1_method_16_code
def yX10_credit : MethodName := ⟨RX10, "credit", "(II)I"⟩
abbrev cX10_publish : ByteArray := prog_1_method_17_code
def yX10_publish : MethodName := ⟨RX10, "publish", "(III)I"⟩
abbrev cX10_give : ByteArray := prog_1_method_18_code
def yX10_give : MethodName := ⟨RX10, "give", "(I)I"⟩
abbrev cX10_giveAll : ByteArray := prog_1_method_19_code
def yX10_giveAll : MethodName := ⟨RX10, "giveAll", "(I)I"⟩
abbrev cX10_ack : ByteArray := prog_1_method_20_code
def yX10_ack : MethodName := ⟨RX10, "ack", "(II)I"⟩
abbrev cX10_nack : ByteArray := prog_1_method_21_code
def yX10_nack : MethodName := ⟨RX10, "nack", "(II)I"⟩
abbrev cX10_pass : ByteArray := prog_1_method_22_code
def yX10_pass : MethodName := ⟨RX10, "pass", "(I)I"⟩
abbrev cX10_revive : ByteArray := prog_1_method_23_code
def yX10_revive : MethodName := ⟨RX10, "revive", "(I)I"⟩
abbrev cX10_bury : ByteArray := prog_1_method_24_code
def yX10_bury : MethodName := ⟨RX10, "bury", "(I)I"⟩
abbrev cX10_purge : ByteArray := prog_1_method_25_code
def yX10_purge : MethodName := ⟨RX10, "purge", "(I)I"⟩
abbrev cX10_queueOf : ByteArray := prog_1_method_26_code
def yX10_queueOf : MethodName := ⟨RX10, "queueOf", "(II)I"⟩
abbrev cX10_letter : ByteArray := prog_1_method_27_code
def yX10_letter : MethodName := ⟨RX10, "letter", "(III)I"⟩
abbrev cX10_consumerOf : ByteArray := prog_1_method_28_code
def yX10_consumerOf : MethodName := ⟨RX10, "consumerOf", "(II)I"⟩
abbrev cX10_held : ByteArray := prog_1_method_29_code
def yX10_held : MethodName := ⟨RX10, "held", "(II)I"⟩
abbrev cX10_messageOf : ByteArray := prog_1_method_30_code
def yX10_messageOf : MethodName := ⟨RX10, "messageOf", "(II)I"⟩
abbrev cX10_dead : ByteArray := prog_1_method_31_code
def yX10_dead : MethodName := ⟨RX10, "dead", "(II)I"⟩
abbrev cX10_cause : ByteArray := prog_1_method_32_code
def yX10_cause : MethodName := ⟨RX10, "cause", "(III)I"⟩
abbrev cX10_fits : ByteArray := prog_1_method_33_code
def yX10_fits : MethodName := ⟨RX10, "fits", "()I"⟩
abbrev cX10_covers : ByteArray := prog_1_method_34_code
def yX10_covers : MethodName := ⟨RX10, "covers", "(II)I"⟩
abbrev cX10_pattern : ByteArray := prog_1_method_35_code
def yX10_pattern : MethodName := ⟨RX10, "pattern", "(II)I"⟩
abbrev cX10_next : ByteArray := prog_1_method_36_code
def yX10_next : MethodName := ⟨RX10, "next", "(II)I"⟩
abbrev cX10_blocked : ByteArray := prog_1_method_37_code
def yX10_blocked : MethodName := ⟨RX10, "blocked", "(I)I"⟩
abbrev cX10_drained : ByteArray := prog_1_method_38_code
def yX10_drained : MethodName := ⟨RX10, "drained", "(II)I"⟩
abbrev cX10_until : ByteArray := prog_1_method_39_code
def yX10_until : MethodName := ⟨RX10, "until", "(I)I"⟩
abbrev cX10_doomed : ByteArray := prog_1_method_40_code
def yX10_doomed : MethodName := ⟨RX10, "doomed", "(I)I"⟩
abbrev cX10_judge : ByteArray := prog_1_method_41_code
def yX10_judge : MethodName := ⟨RX10, "judge", "(III)I"⟩
abbrev cX10_days : ByteArray := prog_1_method_42_code
def yX10_days : MethodName := ⟨RX10, "days", "(I)I"⟩
abbrev cX10_seed : ByteArray := prog_1_method_43_code
def yX10_seed : MethodName := ⟨RX10, "seed", "(I)I"⟩
abbrev cX10_image : ByteArray := prog_1_method_44_code
def yX10_image : MethodName := ⟨RX10, "image", "()I"⟩
abbrev cX10_back : ByteArray := prog_1_method_45_code
def yX10_back : MethodName := ⟨RX10, "back", "()I"⟩
abbrev cX10_status : ByteArray := prog_1_method_46_code
def yX10_status : MethodName := ⟨RX10, "status", "(I)I"⟩
abbrev cX10_refuse : ByteArray := prog_1_method_47_code
def yX10_refuse : MethodName := ⟨RX10, "refuse", "(I)I"⟩
abbrev cX10_refuseFault : ByteArray := prog_1_method_48_code
def yX10_refuseFault : MethodName := ⟨RX10, "refuseFault", "(I)I"⟩
abbrev cX10_refusalsAsked : ByteArray := prog_1_method_49_code
def yX10_refusalsAsked : MethodName := ⟨RX10, "refusalsAsked", "(I)I"⟩
abbrev cX10_shelfAt : ByteArray := prog_1_method_50_code
def yX10_shelfAt : MethodName := ⟨RX10, "shelfAt", "(I)LCreditBroker$Shelf;"⟩
abbrev cX10_countHolding : ByteArray := prog_1_method_51_code
def yX10_countHolding : MethodName := ⟨RX10, "countHolding", "()I"⟩
abbrev cX10_causeAt : ByteArray := prog_1_method_52_code
def yX10_causeAt : MethodName := ⟨RX10, "causeAt", "(II)LCreditBroker$Cause;"⟩
abbrev cX10_isBelow : ByteArray := prog_1_method_53_code
def yX10_isBelow : MethodName := ⟨RX10, "isBelow", "(II)Z"⟩
abbrev cX10_isWithin : ByteArray := prog_1_method_54_code
def yX10_isWithin : MethodName := ⟨RX10, "isWithin", "(III)Z"⟩
abbrev cX10_asBit : ByteArray := prog_1_method_55_code
def yX10_asBit : MethodName := ⟨RX10, "asBit", "(Z)I"⟩
abbrev cX10_narrowed : ByteArray := prog_1_method_56_code
def yX10_narrowed : MethodName := ⟨RX10, "narrowed", "(IJ)J"⟩
def RX11 : String := "CreditBrokerModel"
def TX11 : u_T := fun k => match k with
  | 0 => ("CreditBrokerModel", "g", "[I", true)
  | 1 => ("CreditBrokerModel", "was", "[I", true)
  | 2 => ("CreditBrokerModel", "kept", "[I", true)
  | 3 => ("CreditBrokerModel", "hasImage", "Z", false)
  | 4 => ("CreditBrokerModel", "refusals", "[I", true)
  | 5 => ("CreditBrokerModel", "waits", "[I", true)
  | 6 => ("CreditBrokerModel", "tape", "[I", true)
  | 7 => ("CreditBrokerModel", "taped", "I", false)
  | 8 => ("CreditBrokerModel", "place", "I", false)
  | 9 => ("CreditBrokerModel", "read", "[I", true)
  | 10 => ("CreditBrokerModel", "readMany", "I", false)
  | 11 => ("CreditBrokerModel", "order", "[I", true)
  | 12 => ("CreditBrokerModel", "orderMany", "I", false)
  | 13 => ("CreditBrokerModel", "sorts", "[I", true)
  | 14 => ("CreditBrokerModel", "sizes", "[I", true)
  | 15 => ("CreditBrokerModel", "elements", "[J", true)
  | _ => ("CreditBrokerModel", "causes", "[I", true)
def tyX11 : Nat → FieldType := fun k => match k with
  | 0 => .array .int
  | 1 => .array .int
  | 2 => .array .int
  | 3 => .boolean
  | 4 => .array .int
  | 5 => .array .int
  | 6 => .array .int
  | 7 => .int
  | 8 => .int
  | 9 => .array .int
  | 10 => .int
  | 11 => .array .int
  | 12 => .int
  | 13 => .array .int
  | 14 => .array .int
  | 15 => .array .long
  | _ => .array .int
abbrev wsX110 : List Cond := u_ws RX11 TX11 17
theorem nmX11 : ∀ a, a < 17 → ∀ b, b < 17 → a ≠ b → (TX11 a).2.1 ≠ (TX11 b).2.1 := by decide +kernel
theorem tyX11_ok : ∀ k, k < 17 → parseFieldDescriptor (TX11 k).2.2.1 = some (tyX11 k) := by decide +kernel
abbrev cX11_init : ByteArray := prog_13_method_1_code
def yX11_init : MethodName := ⟨RX11, "<init>", "()V"⟩
abbrev cX11_in : ByteArray := prog_13_method_2_code
def yX11_in : MethodName := ⟨RX11, "in", "(JJJ)Z"⟩
abbrev cX11_refused : ByteArray := prog_13_method_3_code
def yX11_refused : MethodName := ⟨RX11, "refused", "(I)I"⟩
abbrev cX11_copies : ByteArray := prog_13_method_4_code
def yX11_copies : MethodName := ⟨RX11, "copies", "([I[I)V"⟩
abbrev cX11_of : ByteArray := prog_13_method_5_code
def yX11_of : MethodName := ⟨RX11, "of", "(II)I"⟩
abbrev cX11_is : ByteArray := prog_13_method_6_code
def yX11_is : MethodName := ⟨RX11, "is", "(III)V"⟩
abbrev cX11_isQueue : ByteArray := prog_13_method_7_code
def yX11_isQueue : MethodName := ⟨RX11, "isQueue", "(I)Z"⟩
abbrev cX11_ofConsumer : ByteArray := prog_13_method_8_code
def yX11_ofConsumer : MethodName := ⟨RX11, "ofConsumer", "(II)I"⟩
abbrev cX11_isConsumer : ByteArray := prog_13_method_9_code
def yX11_isConsumer : MethodName := ⟨RX11, "isConsumer", "(I)Z"⟩
abbrev cX11_isHere : ByteArray := prog_13_method_10_code
def yX11_isHere : MethodName := ⟨RX11, "isHere", "(I)Z"⟩
abbrev cX11_message : ByteArray := prog_13_method_11_code
def yX11_message : MethodName := ⟨RX11, "message", "(II)I"⟩
abbrev cX11_letterOf : ByteArray := prog_13_method_12_code
def yX11_letterOf : MethodName := ⟨RX11, "letterOf", "(III)I"⟩
abbrev cX11_letterIs : ByteArray := prog_13_method_13_code
def yX11_letterIs : MethodName := ⟨RX11, "letterIs", "(IIII)V"⟩
abbrev cX11_keyOf : ByteArray := prog_13_method_14_code
def yX11_keyOf : MethodName := ⟨RX11, "keyOf", "(II)I"⟩
abbrev cX11_feed : ByteArray := prog_13_method_15_code
def yX11_feed : MethodName := ⟨RX11, "feed", "(I)I"⟩
abbrev cX11_wipe : ByteArray := prog_13_method_16_code
def yX11_wipe : MethodName := ⟨RX11, "wipe", "()I"⟩
abbrev cX11_byteAt : ByteArray := prog_13_method_17_code
def yX11_byteAt : MethodName := ⟨RX11, "byteAt", "(I)I"⟩
abbrev cX11_isRead : ByteArray := prog_13_method_18_code
def yX11_isRead : MethodName := ⟨RX11, "isRead", "(Z)Z"⟩
abbrev cX11_faulty : ByteArray := prog_13_method_19_code
def yX11_faulty : MethodName := ⟨RX11, "faulty", "()I"⟩
abbrev cX11_topic : ByteArray := prog_13_method_20_code
def yX11_topic : MethodName := ⟨RX11, "topic", "()I"⟩
abbrev cX11_queue : ByteArray := prog_13_method_21_code
def yX11_queue : MethodName := ⟨RX11, "queue", "(IIII)I"⟩
abbrev cX11_isLong : ByteArray := prog_13_method_22_code
def yX11_isLong : MethodName := ⟨RX11, "isLong", "(II)Z"⟩
abbrev cX11_partOf : ByteArray := prog_13_method_23_code
def yX11_partOf : MethodName := ⟨RX11, "partOf", "(II)I"⟩
abbrev cX11_isFit : ByteArray := prog_13_method_24_code
def yX11_isFit : MethodName := ⟨RX11, "isFit", "(I)Z"⟩
abbrev cX11_fits : ByteArray := prog_13_method_25_code
def yX11_fits : MethodName := ⟨RX11, "fits", "()I"⟩
abbrev cX11_covers : ByteArray := prog_13_method_26_code
def yX11_covers : MethodName := ⟨RX11, "covers", "(II)I"⟩
abbrev cX11_pattern : ByteArray := prog_13_method_27_code
def yX11_pattern : MethodName := ⟨RX11, "pattern", "(II)I"⟩
abbrev cX11_goes : ByteArray := prog_13_method_28_code
def yX11_goes : MethodName := ⟨RX11, "goes", "(II)V"⟩
abbrev cX11_comes : ByteArray := prog_13_method_29_code
def yX11_comes : MethodName := ⟨RX11, "comes", "(II)V"⟩
abbrev cX11_newDead : ByteArray := prog_13_method_30_code
def yX11_newDead : MethodName := ⟨RX11, "newDead", "(II)I"⟩
abbrev cX11_ahead : ByteArray := prog_13_method_31_code
def yX11_ahead : MethodName := ⟨RX11, "ahead", "(IIII)V"⟩
abbrev cX11_dies : ByteArray := prog_13_method_32_code
def yX11_dies : MethodName := ⟨RX11, "dies", "(IIII)V"⟩
abbrev cX11_fails : ByteArray := prog_13_method_33_code
def yX11_fails : MethodName := ⟨RX11, "fails", "(IIII)Z"⟩
abbrev cX11_credits : ByteArray := prog_13_method_34_code
def yX11_credits : MethodName := ⟨RX11, "credits", "(I)V"⟩
abbrev cX11_publish : ByteArray := prog_13_method_35_code
def yX11_publish : MethodName := ⟨RX11, "publish", "(III)I"⟩
abbrev cX11_publishes : ByteArray := prog_13_method_36_code
def yX11_publishes : MethodName := ⟨RX11, "publishes", "(III)I"⟩
abbrev cX11_may : ByteArray := prog_13_method_37_code
def yX11_may : MethodName := ⟨RX11, "may", "(II)Z"⟩
abbrev cX11_nextOf : ByteArray := prog_13_method_38_code
def yX11_nextOf : MethodName := ⟨RX11, "nextOf", "(I)I"⟩
abbrev cX11_who : ByteArray := prog_13_method_39_code
def yX11_who : MethodName := ⟨RX11, "who", "(I)I"⟩
abbrev cX11_gives : ByteArray := prog_13_method_40_code
def yX11_gives : MethodName := ⟨RX11, "gives", "(I)I"⟩
abbrev cX11_give : ByteArray := prog_13_method_41_code
def yX11_give : MethodName := ⟨RX11, "give", "(I)I"⟩
abbrev cX11_giveAll : ByteArray := prog_13_method_42_code
def yX11_giveAll : MethodName := ⟨RX11, "giveAll", "(I)I"⟩
abbrev cX11_outOf : ByteArray := prog_13_method_43_code
def yX11_outOf : MethodName := ⟨RX11, "outOf", "(I)I"⟩
abbrev cX11_outAt : ByteArray := prog_13_method_44_code
def yX11_outAt : MethodName := ⟨RX11, "outAt", "(II)I"⟩
abbrev cX11_acks : ByteArray := prog_13_method_45_code
def yX11_acks : MethodName := ⟨RX11, "acks", "(II)V"⟩
abbrev cX11_refuses : ByteArray := prog_13_method_46_code
def yX11_refuses : MethodName := ⟨RX11, "refuses", "(II)I"⟩
abbrev cX11_ack : ByteArray := prog_13_method_47_code
def yX11_ack : MethodName := ⟨RX11, "ack", "(II)I"⟩
abbrev cX11_nack : ByteArray := prog_13_method_48_code
def yX11_nack : MethodName := ⟨RX11, "nack", "(II)I"⟩
abbrev cX11_exclusive : ByteArray := prog_13_method_49_code
def yX11_exclusive : MethodName := ⟨RX11, "exclusive", "(II)I"⟩
abbrev cX11_consumer : ByteArray := prog_13_method_50_code
def yX11_consumer : MethodName := ⟨RX11, "consumer", "(I)I"⟩
abbrev cX11_leave : ByteArray := prog_13_method_51_code
def yX11_leave : MethodName := ⟨RX11, "leave", "(I)I"⟩
abbrev cX11_credit : ByteArray := prog_13_method_52_code
def yX11_credit : MethodName := ⟨RX11, "credit", "(II)I"⟩
abbrev cX11_ages : ByteArray := prog_13_method_53_code
def yX11_ages : MethodName := ⟨RX11, "ages", "(II)Z"⟩
abbrev cX11_passes : ByteArray := prog_13_method_54_code
def yX11_passes : MethodName := ⟨RX11, "passes", "(I)I"⟩
abbrev cX11_pass : ByteArray := prog_13_method_55_code
def yX11_pass : MethodName := ⟨RX11, "pass", "(I)I"⟩
abbrev cX11_revive : ByteArray := prog_13_method_56_code
def yX11_revive : MethodName := ⟨RX11, "revive", "(I)I"⟩
abbrev cX11_losesDead : ByteArray := prog_13_method_57_code
def yX11_losesDead : MethodName := ⟨RX11, "losesDead", "(I)V"⟩
abbrev cX11_bury : ByteArray := prog_13_method_58_code
def yX11_bury : MethodName := ⟨RX11, "bury", "(I)I"⟩
abbrev cX11_purge : ByteArray := prog_13_method_59_code
def yX11_purge : MethodName := ⟨RX11, "purge", "(I)I"⟩
abbrev cX11_lettersOf : ByteArray := prog_13_method_60_code
def yX11_lettersOf : MethodName := ⟨RX11, "lettersOf", "(II)I"⟩
abbrev cX11_mayMany : ByteArray := prog_13_method_61_code
def yX11_mayMany : MethodName := ⟨RX11, "mayMany", "(I)I"⟩
abbrev cX11_consumersOf : ByteArray := prog_13_method_62_code
def yX11_consumersOf : MethodName := ⟨RX11, "consumersOf", "(IZ)I"⟩
abbrev cX11_queueOf : ByteArray := prog_13_method_63_code
def yX11_queueOf : MethodName := ⟨RX11, "queueOf", "(II)I"⟩
abbrev cX11_letter : ByteArray := prog_13_method_64_code
def yX11_letter : MethodName := ⟨RX11, "letter", "(III)I"⟩
abbrev cX11_consumerOf : ByteArray := prog_13_method_65_code
def yX11_consumerOf : MethodName := ⟨RX11, "consumerOf", "(II)I"⟩
abbrev cX11_held : ByteArray := prog_13_method_66_code
def yX11_held : MethodName := ⟨RX11, "held", "(II)I"⟩
abbrev cX11_messageOf : ByteArray := prog_13_method_67_code
def yX11_messageOf : MethodName := ⟨RX11, "messageOf", "(II)I"⟩
abbrev cX11_dead : ByteArray := prog_13_method_68_code
def yX11_dead : MethodName := ⟨RX11, "dead", "(II)I"⟩
abbrev cX11_isCause : ByteArray := prog_13_method_69_code
def yX11_isCause : MethodName := ⟨RX11, "isCause", "(II)Z"⟩
abbrev cX11_cause : ByteArray := prog_13_method_70_code
def yX11_cause : MethodName := ⟨RX11, "cause", "(III)I"⟩
abbrev cX11_next : ByteArray := prog_13_method_71_code
def yX11_next : MethodName := ⟨RX11, "next", "(II)I"⟩
abbrev cX11_blocked : ByteArray := prog_13_method_72_code
def yX11_blocked : MethodName := ⟨RX11, "blocked", "(I)I"⟩
abbrev cX11_drains : ByteArray := prog_13_method_73_code
def yX11_drains : MethodName := ⟨RX11, "drains", "(I)V"⟩
abbrev cX11_drained : ByteArray := prog_13_method_74_code
def yX11_drained : MethodName := ⟨RX11, "drained", "(II)I"⟩
abbrev cX11_until : ByteArray := prog_13_method_75_code
def yX11_until : MethodName := ⟨RX11, "until", "(I)I"⟩
abbrev cX11_doomed : ByteArray := prog_13_method_76_code
def yX11_doomed : MethodName := ⟨RX11, "doomed", "(I)I"⟩
abbrev cX11_isShelf : ByteArray := prog_13_method_77_code
def yX11_isShelf : MethodName := ⟨RX11, "isShelf", "(I)Z"⟩
abbrev cX11_row : ByteArray := prog_13_method_78_code
def yX11_row : MethodName := ⟨RX11, "row", "(III)I"⟩
abbrev cX11_lowest : ByteArray := prog_13_method_79_code
def yX11_lowest : MethodName := ⟨RX11, "lowest", "(IJ)J"⟩
abbrev cX11_set : ByteArray := prog_13_method_80_code
def yX11_set : MethodName := ⟨RX11, "set", "(IIJ)I"⟩
abbrev cX11_copy : ByteArray := prog_13_method_81_code
def yX11_copy : MethodName := ⟨RX11, "copy", "(IIIII)I"⟩
abbrev cX11_element : ByteArray := prog_13_method_82_code
def yX11_element : MethodName := ⟨RX11, "element", "(II)J"⟩
abbrev cX11_holds : ByteArray := prog_13_method_83_code
def yX11_holds : MethodName := ⟨RX11, "holds", "(I)I"⟩
abbrev cX11_show : ByteArray := prog_13_method_84_code
def yX11_show : MethodName := ⟨RX11, "show", "(III)I"⟩
abbrev cX11_isUnder : ByteArray := prog_13_method_85_code
def yX11_isUnder : MethodName := ⟨RX11, "isUnder", "(II)Z"⟩
abbrev cX11_says : ByteArray := prog_13_method_86_code
def yX11_says : MethodName := ⟨RX11, "says", "(II)I"⟩
abbrev cX11_judge : ByteArray := prog_13_method_87_code
def yX11_judge : MethodName := ⟨RX11, "judge", "(III)I"⟩
abbrev cX11_draw : ByteArray := prog_13_method_88_code
def yX11_draw : MethodName := ⟨RX11, "draw", "(I)I"⟩
abbrev cX11_isDay : ByteArray := prog_13_method_89_code
def yX11_isDay : MethodName := ⟨RX11, "isDay", "(I)Z"⟩
abbrev cX11_days : ByteArray := prog_13_method_90_code
def yX11_days : MethodName := ⟨RX11, "days", "(I)I"⟩
abbrev cX11_seed : ByteArray := prog_13_method_91_code
def yX11_seed : MethodName := ⟨RX11, "seed", "(I)I"⟩
abbrev cX11_image : ByteArray := prog_13_method_92_code
def yX11_image : MethodName := ⟨RX11, "image", "()I"⟩
abbrev cX11_back : ByteArray := prog_13_method_93_code
def yX11_back : MethodName := ⟨RX11, "back", "()I"⟩
abbrev cX11_sum : ByteArray := prog_13_method_94_code
def yX11_sum : MethodName := ⟨RX11, "sum", "(Z)I"⟩
abbrev cX11_heldShelves : ByteArray := prog_13_method_95_code
def yX11_heldShelves : MethodName := ⟨RX11, "heldShelves", "()I"⟩
abbrev cX11_status : ByteArray := prog_13_method_96_code
def yX11_status : MethodName := ⟨RX11, "status", "(I)I"⟩
def RJ9 : String := "java/lang/Math"
abbrev cJ9_max_7cf53 : ByteArray := prog_14_method_65_code
def yJ9_max_7cf53 : MethodName := ⟨RJ9, "max", "(II)I"⟩
abbrev cJ9_min_7cf53 : ByteArray := prog_14_method_69_code
def yJ9_min_7cf53 : MethodName := ⟨RJ9, "min", "(II)I"⟩
def RJ10 : String := "java/lang/System"
def RL : String := "CreditBrokerLaw"
def yL_law : MethodName := ⟨RL, "law", "([I)Z"⟩
abbrev classes : List vw_C := [(RX0, TX0, 6), (RX1, TX1, 5), (RX2, TX2, 4), (RX3, TX3, 9), (RX4, TX4, 5), (RX5, TX5, 6), (RX6, TX6, 13), (RX7, TX7, 4), (RX8, TX8, 2), (RX9, TX9, 11), (RX10, TX10, 6), (RX11, TX11, 17)]
theorem inBy {big : List Cond} {ws : List Cond} (ps : List Nat) (hp : ws = ps.filterMap (fun i => big[i]?)) : ∀ w ∈ ws, w ∈ big := by
  intro w hw
  rw [hp] at hw
  obtain ⟨i, -, hi⟩ := List.mem_filterMap.mp hw
  exact List.mem_of_getElem? hi
theorem inX0 : ∀ w ∈ wsX00, w ∈ lw_tbl := inBy [702, 704, 706, 708, 710, 712] (by decide +kernel)
theorem inX1 : ∀ w ∈ wsX10, w ∈ lw_tbl := inBy [303, 305, 307, 309, 311] (by decide +kernel)
theorem inX2 : ∀ w ∈ wsX20, w ∈ lw_tbl := inBy [331, 333, 335, 337] (by decide +kernel)
theorem inX3 : ∀ w ∈ wsX30, w ∈ lw_tbl := inBy [203, 205, 207, 209, 211, 213, 215, 217, 219] (by decide +kernel)
theorem inX4 : ∀ w ∈ wsX40, w ∈ lw_tbl := inBy [116, 118, 120, 122, 124] (by decide +kernel)
theorem inX5 : ∀ w ∈ wsX50, w ∈ lw_tbl := inBy [146, 148, 150, 152, 154, 156] (by decide +kernel)
theorem inX6 : ∀ w ∈ wsX60, w ∈ lw_tbl := inBy [255, 257, 259, 261, 263, 265, 267, 269, 271, 273, 275, 277, 279] (by decide +kernel)
theorem inX7 : ∀ w ∈ wsX70, w ∈ lw_tbl := inBy [414, 416, 418, 420] (by decide +kernel)
theorem inX8 : ∀ w ∈ wsX80, w ∈ lw_tbl := inBy [393, 395] (by decide +kernel)
theorem inX9 : ∀ w ∈ wsX90, w ∈ lw_tbl := inBy [359, 361, 363, 365, 367, 369, 371, 373, 375, 377, 379] (by decide +kernel)
theorem inX10 : ∀ w ∈ wsX100, w ∈ lw_tbl := inBy [430, 432, 434, 436, 438, 440] (by decide +kernel)
theorem inX11 : ∀ w ∈ wsX110, w ∈ lw_tbl := inBy [1133, 1135, 1137, 1139, 1141, 1143, 1145, 1147, 1149, 1151, 1153, 1155, 1157, 1159, 1161, 1163, 1165] (by decide +kernel)
