section
-- ===== PART A: goes FIRST, ahead of the names: the tables' words, and 'selects' of the private methods out of them =====
/-- a private method of a class that the tables say can be made, by its rows of tables_1 -/
def lw_okq (q : MethodName × Nat) : Prop := (q.1.cls ≠ "java/lang/invoke/MethodHandle" ∧ q.1.cls ≠ "java/lang/invoke/VarHandle") ∧ Cond.instantiable q.1.cls q.2 ∈ tables_1 ∧ Cond.privateMethod q.1 ∈ tables_1 ∧ Cond.instanceMethod q.1 ∈ tables_1
theorem lw_p0 : lw_okq (⟨"GuestWeighsLess", "rowOn", "(I)LGuestWeighsLess$Row;"⟩, 8) := ⟨⟨by decide +kernel, by decide +kernel⟩, List.mem_of_getElem? (i := 24) (by decide +kernel), List.mem_of_getElem? (i := 147) (by decide +kernel), List.mem_of_getElem? (i := 148) (by decide +kernel)⟩
theorem lw_p1 : lw_okq (⟨"GuestWeighsLess", "whyNoRow", "(I)I"⟩, 8) := ⟨⟨by decide +kernel, by decide +kernel⟩, List.mem_of_getElem? (i := 24) (by decide +kernel), List.mem_of_getElem? (i := 151) (by decide +kernel), List.mem_of_getElem? (i := 152) (by decide +kernel)⟩
theorem lw_p2 : lw_okq (⟨"GuestWeighsLess", "kindOn", "(I)LGuestWeighsLess$Guest;"⟩, 8) := ⟨⟨by decide +kernel, by decide +kernel⟩, List.mem_of_getElem? (i := 24) (by decide +kernel), List.mem_of_getElem? (i := 155) (by decide +kernel), List.mem_of_getElem? (i := 156) (by decide +kernel)⟩
theorem lw_p3 : lw_okq (⟨"GuestWeighsLess", "whyNoKind", "(I)I"⟩, 8) := ⟨⟨by decide +kernel, by decide +kernel⟩, List.mem_of_getElem? (i := 24) (by decide +kernel), List.mem_of_getElem? (i := 503) (by decide +kernel), List.mem_of_getElem? (i := 504) (by decide +kernel)⟩
theorem lw_p4 : lw_okq (⟨"GuestWeighsLess", "areTwo", "(II)Z"⟩, 8) := ⟨⟨by decide +kernel, by decide +kernel⟩, List.mem_of_getElem? (i := 24) (by decide +kernel), List.mem_of_getElem? (i := 519) (by decide +kernel), List.mem_of_getElem? (i := 520) (by decide +kernel)⟩
theorem lw_p5 : lw_okq (⟨"GuestWeighsLess", "firstToLeave", "()I"⟩, 8) := ⟨⟨by decide +kernel, by decide +kernel⟩, List.mem_of_getElem? (i := 24) (by decide +kernel), List.mem_of_getElem? (i := 558) (by decide +kernel), List.mem_of_getElem? (i := 559) (by decide +kernel)⟩
theorem lw_p6 : lw_okq (⟨"GuestWeighsLess", "goesNextDay", "(I)Z"⟩, 8) := ⟨⟨by decide +kernel, by decide +kernel⟩, List.mem_of_getElem? (i := 24) (by decide +kernel), List.mem_of_getElem? (i := 602) (by decide +kernel), List.mem_of_getElem? (i := 603) (by decide +kernel)⟩
theorem lw_p7 : lw_okq (⟨"GuestWeighsLess", "planPairs", "()V"⟩, 8) := ⟨⟨by decide +kernel, by decide +kernel⟩, List.mem_of_getElem? (i := 24) (by decide +kernel), List.mem_of_getElem? (i := 618) (by decide +kernel), List.mem_of_getElem? (i := 619) (by decide +kernel)⟩
theorem lw_p8 : lw_okq (⟨"GuestWeighsLess", "goneNextDay", "()I"⟩, 8) := ⟨⟨by decide +kernel, by decide +kernel⟩, List.mem_of_getElem? (i := 24) (by decide +kernel), List.mem_of_getElem? (i := 622) (by decide +kernel), List.mem_of_getElem? (i := 623) (by decide +kernel)⟩
theorem lw_p9 : lw_okq (⟨"GuestWeighsLess", "goneIfLent", "(II)I"⟩, 8) := ⟨⟨by decide +kernel, by decide +kernel⟩, List.mem_of_getElem? (i := 24) (by decide +kernel), List.mem_of_getElem? (i := 626) (by decide +kernel), List.mem_of_getElem? (i := 627) (by decide +kernel)⟩
theorem lw_p10 : lw_okq (⟨"GuestWeighsLess", "mostGoneOf", "(I)I"⟩, 8) := ⟨⟨by decide +kernel, by decide +kernel⟩, List.mem_of_getElem? (i := 24) (by decide +kernel), List.mem_of_getElem? (i := 631) (by decide +kernel), List.mem_of_getElem? (i := 632) (by decide +kernel)⟩
theorem lw_p11 : lw_okq (⟨"GuestWeighsLess", "canPair", "(III)Z"⟩, 8) := ⟨⟨by decide +kernel, by decide +kernel⟩, List.mem_of_getElem? (i := 24) (by decide +kernel), List.mem_of_getElem? (i := 635) (by decide +kernel), List.mem_of_getElem? (i := 636) (by decide +kernel)⟩
theorem lw_p12 : lw_okq (⟨"GuestWeighsLess", "goneWithPair", "(III)I"⟩, 8) := ⟨⟨by decide +kernel, by decide +kernel⟩, List.mem_of_getElem? (i := 24) (by decide +kernel), List.mem_of_getElem? (i := 639) (by decide +kernel), List.mem_of_getElem? (i := 640) (by decide +kernel)⟩
theorem lw_p13 : lw_okq (⟨"GuestWeighsLess", "partnerOf", "(I)I"⟩, 8) := ⟨⟨by decide +kernel, by decide +kernel⟩, List.mem_of_getElem? (i := 24) (by decide +kernel), List.mem_of_getElem? (i := 643) (by decide +kernel), List.mem_of_getElem? (i := 644) (by decide +kernel)⟩
theorem lw_p14 : lw_okq (⟨"GuestWeighsLess", "partnerOfLowest", "(I)I"⟩, 8) := ⟨⟨by decide +kernel, by decide +kernel⟩, List.mem_of_getElem? (i := 24) (by decide +kernel), List.mem_of_getElem? (i := 647) (by decide +kernel), List.mem_of_getElem? (i := 648) (by decide +kernel)⟩
theorem lw_p15 : lw_okq (⟨"GuestWeighsLess", "kindsBy", "(LGuestWeighsLess$Row;I)I"⟩, 8) := ⟨⟨by decide +kernel, by decide +kernel⟩, List.mem_of_getElem? (i := 24) (by decide +kernel), List.mem_of_getElem? (i := 679) (by decide +kernel), List.mem_of_getElem? (i := 680) (by decide +kernel)⟩
def lw_privs_1 : List (MethodName × Nat) := [(⟨"GuestWeighsLess", "rowOn", "(I)LGuestWeighsLess$Row;"⟩, 8), (⟨"GuestWeighsLess", "whyNoRow", "(I)I"⟩, 8), (⟨"GuestWeighsLess", "kindOn", "(I)LGuestWeighsLess$Guest;"⟩, 8), (⟨"GuestWeighsLess", "whyNoKind", "(I)I"⟩, 8), (⟨"GuestWeighsLess", "areTwo", "(II)Z"⟩, 8), (⟨"GuestWeighsLess", "firstToLeave", "()I"⟩, 8), (⟨"GuestWeighsLess", "goesNextDay", "(I)Z"⟩, 8), (⟨"GuestWeighsLess", "planPairs", "()V"⟩, 8), (⟨"GuestWeighsLess", "goneNextDay", "()I"⟩, 8), (⟨"GuestWeighsLess", "goneIfLent", "(II)I"⟩, 8), (⟨"GuestWeighsLess", "mostGoneOf", "(I)I"⟩, 8), (⟨"GuestWeighsLess", "canPair", "(III)Z"⟩, 8), (⟨"GuestWeighsLess", "goneWithPair", "(III)I"⟩, 8), (⟨"GuestWeighsLess", "partnerOf", "(I)I"⟩, 8), (⟨"GuestWeighsLess", "partnerOfLowest", "(I)I"⟩, 8), (⟨"GuestWeighsLess", "kindsBy", "(LGuestWeighsLess$Row;I)I"⟩, 8)]
theorem lw_r1 : ∀ q ∈ lw_privs_1, lw_okq q := List.forall_mem_cons.mpr ⟨lw_p0, List.forall_mem_cons.mpr ⟨lw_p1, List.forall_mem_cons.mpr ⟨lw_p2, List.forall_mem_cons.mpr ⟨lw_p3, List.forall_mem_cons.mpr ⟨lw_p4, List.forall_mem_cons.mpr ⟨lw_p5, List.forall_mem_cons.mpr ⟨lw_p6, List.forall_mem_cons.mpr ⟨lw_p7, List.forall_mem_cons.mpr ⟨lw_p8, List.forall_mem_cons.mpr ⟨lw_p9, List.forall_mem_cons.mpr ⟨lw_p10, List.forall_mem_cons.mpr ⟨lw_p11, List.forall_mem_cons.mpr ⟨lw_p12, List.forall_mem_cons.mpr ⟨lw_p13, List.forall_mem_cons.mpr ⟨lw_p14, List.forall_mem_cons.mpr ⟨lw_p15, fun _ h => absurd h List.not_mem_nil⟩⟩⟩⟩⟩⟩⟩⟩⟩⟩⟩⟩⟩⟩⟩⟩
theorem lw_p16 : lw_okq (⟨"GuestWeighsLess", "weighedSoAs", "(LGuestWeighsLess$Guest;LGuestWeighsLess$Row;I)Z"⟩, 8) := ⟨⟨by decide +kernel, by decide +kernel⟩, List.mem_of_getElem? (i := 24) (by decide +kernel), List.mem_of_getElem? (i := 684) (by decide +kernel), List.mem_of_getElem? (i := 685) (by decide +kernel)⟩
theorem lw_p17 : lw_okq (⟨"GuestWeighsLess", "figuresBy", "(LGuestWeighsLess$Row;I)I"⟩, 8) := ⟨⟨by decide +kernel, by decide +kernel⟩, List.mem_of_getElem? (i := 24) (by decide +kernel), List.mem_of_getElem? (i := 695) (by decide +kernel), List.mem_of_getElem? (i := 696) (by decide +kernel)⟩
theorem lw_p18 : lw_okq (⟨"GuestWeighsLess", "enteredBy", "(LGuestWeighsLess$Row;II)I"⟩, 8) := ⟨⟨by decide +kernel, by decide +kernel⟩, List.mem_of_getElem? (i := 24) (by decide +kernel), List.mem_of_getElem? (i := 703) (by decide +kernel), List.mem_of_getElem? (i := 704) (by decide +kernel)⟩
theorem lw_p19 : lw_okq (⟨"GuestWeighsLess", "worthOfChoice", "(III)I"⟩, 8) := ⟨⟨by decide +kernel, by decide +kernel⟩, List.mem_of_getElem? (i := 24) (by decide +kernel), List.mem_of_getElem? (i := 713) (by decide +kernel), List.mem_of_getElem? (i := 714) (by decide +kernel)⟩
theorem lw_p20 : lw_okq (⟨"GuestWeighsLess", "hasLeftBehindFeasts", "(III)Z"⟩, 8) := ⟨⟨by decide +kernel, by decide +kernel⟩, List.mem_of_getElem? (i := 24) (by decide +kernel), List.mem_of_getElem? (i := 727) (by decide +kernel), List.mem_of_getElem? (i := 728) (by decide +kernel)⟩
theorem lw_p21 : lw_okq (⟨"GuestWeighsLess", "holdsNothing", "(I)Z"⟩, 8) := ⟨⟨by decide +kernel, by decide +kernel⟩, List.mem_of_getElem? (i := 24) (by decide +kernel), List.mem_of_getElem? (i := 819) (by decide +kernel), List.mem_of_getElem? (i := 820) (by decide +kernel)⟩
theorem lw_p22 : lw_okq (⟨"java/lang/Throwable", "fillInStackTrace", "(I)Ljava/lang/Throwable;"⟩, 6) := ⟨⟨by decide +kernel, by decide +kernel⟩, List.mem_of_getElem? (i := 926) (by decide +kernel), List.mem_of_getElem? (i := 924) (by decide +kernel), List.mem_of_getElem? (i := 925) (by decide +kernel)⟩
theorem lw_p23 : lw_okq (⟨"GuestWeighsLessModel", "wrongRow", "(II)I"⟩, 19) := ⟨⟨by decide +kernel, by decide +kernel⟩, List.mem_of_getElem? (i := 1012) (by decide +kernel), List.mem_of_getElem? (i := 1080) (by decide +kernel), List.mem_of_getElem? (i := 1081) (by decide +kernel)⟩
theorem lw_p24 : lw_okq (⟨"GuestWeighsLessModel", "readsStatement", "()Z"⟩, 19) := ⟨⟨by decide +kernel, by decide +kernel⟩, List.mem_of_getElem? (i := 1012) (by decide +kernel), List.mem_of_getElem? (i := 1090) (by decide +kernel), List.mem_of_getElem? (i := 1091) (by decide +kernel)⟩
theorem lw_p25 : lw_okq (⟨"GuestWeighsLessModel", "here", "()I"⟩, 19) := ⟨⟨by decide +kernel, by decide +kernel⟩, List.mem_of_getElem? (i := 1012) (by decide +kernel), List.mem_of_getElem? (i := 1094) (by decide +kernel), List.mem_of_getElem? (i := 1095) (by decide +kernel)⟩
theorem lw_p26 : lw_okq (⟨"GuestWeighsLessModel", "readsNumber", "(II)Z"⟩, 19) := ⟨⟨by decide +kernel, by decide +kernel⟩, List.mem_of_getElem? (i := 1012) (by decide +kernel), List.mem_of_getElem? (i := 1098) (by decide +kernel), List.mem_of_getElem? (i := 1099) (by decide +kernel)⟩
theorem lw_p27 : lw_okq (⟨"GuestWeighsLessModel", "isDone", "(I)Z"⟩, 19) := ⟨⟨by decide +kernel, by decide +kernel⟩, List.mem_of_getElem? (i := 1012) (by decide +kernel), List.mem_of_getElem? (i := 1105) (by decide +kernel), List.mem_of_getElem? (i := 1106) (by decide +kernel)⟩
theorem lw_p28 : lw_okq (⟨"GuestWeighsLessModel", "adds", "(III)V"⟩, 19) := ⟨⟨by decide +kernel, by decide +kernel⟩, List.mem_of_getElem? (i := 1012) (by decide +kernel), List.mem_of_getElem? (i := 1109) (by decide +kernel), List.mem_of_getElem? (i := 1110) (by decide +kernel)⟩
theorem lw_p29 : lw_okq (⟨"GuestWeighsLessModel", "isGuest", "(I)Z"⟩, 19) := ⟨⟨by decide +kernel, by decide +kernel⟩, List.mem_of_getElem? (i := 1012) (by decide +kernel), List.mem_of_getElem? (i := 1119) (by decide +kernel), List.mem_of_getElem? (i := 1120) (by decide +kernel)⟩
theorem lw_p30 : lw_okq (⟨"GuestWeighsLessModel", "wrongKept", "(I)I"⟩, 19) := ⟨⟨by decide +kernel, by decide +kernel⟩, List.mem_of_getElem? (i := 1012) (by decide +kernel), List.mem_of_getElem? (i := 1176) (by decide +kernel), List.mem_of_getElem? (i := 1177) (by decide +kernel)⟩
theorem lw_p31 : lw_okq (⟨"GuestWeighsLessModel", "takes", "(I)V"⟩, 19) := ⟨⟨by decide +kernel, by decide +kernel⟩, List.mem_of_getElem? (i := 1012) (by decide +kernel), List.mem_of_getElem? (i := 1207) (by decide +kernel), List.mem_of_getElem? (i := 1208) (by decide +kernel)⟩
def lw_privs_2 : List (MethodName × Nat) := [(⟨"GuestWeighsLess", "weighedSoAs", "(LGuestWeighsLess$Guest;LGuestWeighsLess$Row;I)Z"⟩, 8), (⟨"GuestWeighsLess", "figuresBy", "(LGuestWeighsLess$Row;I)I"⟩, 8), (⟨"GuestWeighsLess", "enteredBy", "(LGuestWeighsLess$Row;II)I"⟩, 8), (⟨"GuestWeighsLess", "worthOfChoice", "(III)I"⟩, 8), (⟨"GuestWeighsLess", "hasLeftBehindFeasts", "(III)Z"⟩, 8), (⟨"GuestWeighsLess", "holdsNothing", "(I)Z"⟩, 8), (⟨"java/lang/Throwable", "fillInStackTrace", "(I)Ljava/lang/Throwable;"⟩, 6), (⟨"GuestWeighsLessModel", "wrongRow", "(II)I"⟩, 19), (⟨"GuestWeighsLessModel", "readsStatement", "()Z"⟩, 19), (⟨"GuestWeighsLessModel", "here", "()I"⟩, 19), (⟨"GuestWeighsLessModel", "readsNumber", "(II)Z"⟩, 19), (⟨"GuestWeighsLessModel", "isDone", "(I)Z"⟩, 19), (⟨"GuestWeighsLessModel", "adds", "(III)V"⟩, 19), (⟨"GuestWeighsLessModel", "isGuest", "(I)Z"⟩, 19), (⟨"GuestWeighsLessModel", "wrongKept", "(I)I"⟩, 19), (⟨"GuestWeighsLessModel", "takes", "(I)V"⟩, 19)]
theorem lw_r2 : ∀ q ∈ lw_privs_2, lw_okq q := List.forall_mem_cons.mpr ⟨lw_p16, List.forall_mem_cons.mpr ⟨lw_p17, List.forall_mem_cons.mpr ⟨lw_p18, List.forall_mem_cons.mpr ⟨lw_p19, List.forall_mem_cons.mpr ⟨lw_p20, List.forall_mem_cons.mpr ⟨lw_p21, List.forall_mem_cons.mpr ⟨lw_p22, List.forall_mem_cons.mpr ⟨lw_p23, List.forall_mem_cons.mpr ⟨lw_p24, List.forall_mem_cons.mpr ⟨lw_p25, List.forall_mem_cons.mpr ⟨lw_p26, List.forall_mem_cons.mpr ⟨lw_p27, List.forall_mem_cons.mpr ⟨lw_p28, List.forall_mem_cons.mpr ⟨lw_p29, List.forall_mem_cons.mpr ⟨lw_p30, List.forall_mem_cons.mpr ⟨lw_p31, fun _ h => absurd h List.not_mem_nil⟩⟩⟩⟩⟩⟩⟩⟩⟩⟩⟩⟩⟩⟩⟩⟩
theorem lw_p32 : lw_okq (⟨"GuestWeighsLessModel", "firstLeaves", "()I"⟩, 19) := ⟨⟨by decide +kernel, by decide +kernel⟩, List.mem_of_getElem? (i := 1012) (by decide +kernel), List.mem_of_getElem? (i := 1225) (by decide +kernel), List.mem_of_getElem? (i := 1226) (by decide +kernel)⟩
theorem lw_p33 : lw_okq (⟨"GuestWeighsLessModel", "leavesOf", "(I)I"⟩, 19) := ⟨⟨by decide +kernel, by decide +kernel⟩, List.mem_of_getElem? (i := 1012) (by decide +kernel), List.mem_of_getElem? (i := 1230) (by decide +kernel), List.mem_of_getElem? (i := 1231) (by decide +kernel)⟩
theorem lw_p34 : lw_okq (⟨"GuestWeighsLessModel", "lighterThan", "(I)I"⟩, 19) := ⟨⟨by decide +kernel, by decide +kernel⟩, List.mem_of_getElem? (i := 1012) (by decide +kernel), List.mem_of_getElem? (i := 1238) (by decide +kernel), List.mem_of_getElem? (i := 1239) (by decide +kernel)⟩
theorem lw_p35 : lw_okq (⟨"GuestWeighsLessModel", "hasLeftNext", "(I)Z"⟩, 19) := ⟨⟨by decide +kernel, by decide +kernel⟩, List.mem_of_getElem? (i := 1012) (by decide +kernel), List.mem_of_getElem? (i := 1254) (by decide +kernel), List.mem_of_getElem? (i := 1255) (by decide +kernel)⟩
theorem lw_p36 : lw_okq (⟨"GuestWeighsLessModel", "matches", "()V"⟩, 19) := ⟨⟨by decide +kernel, by decide +kernel⟩, List.mem_of_getElem? (i := 1012) (by decide +kernel), List.mem_of_getElem? (i := 1270) (by decide +kernel), List.mem_of_getElem? (i := 1271) (by decide +kernel)⟩
theorem lw_p37 : lw_okq (⟨"GuestWeighsLessModel", "leftBy", "(III)I"⟩, 19) := ⟨⟨by decide +kernel, by decide +kernel⟩, List.mem_of_getElem? (i := 1012) (by decide +kernel), List.mem_of_getElem? (i := 1274) (by decide +kernel), List.mem_of_getElem? (i := 1275) (by decide +kernel)⟩
theorem lw_p38 : lw_okq (⟨"GuestWeighsLessModel", "pairOf", "(II)I"⟩, 19) := ⟨⟨by decide +kernel, by decide +kernel⟩, List.mem_of_getElem? (i := 1012) (by decide +kernel), List.mem_of_getElem? (i := 1278) (by decide +kernel), List.mem_of_getElem? (i := 1279) (by decide +kernel)⟩
theorem lw_p39 : lw_okq (⟨"GuestWeighsLessModel", "bestOf", "(I)I"⟩, 19) := ⟨⟨by decide +kernel, by decide +kernel⟩, List.mem_of_getElem? (i := 1012) (by decide +kernel), List.mem_of_getElem? (i := 1282) (by decide +kernel), List.mem_of_getElem? (i := 1283) (by decide +kernel)⟩
theorem lw_p40 : lw_okq (⟨"GuestWeighsLessModel", "partnerOf", "(I)I"⟩, 19) := ⟨⟨by decide +kernel, by decide +kernel⟩, List.mem_of_getElem? (i := 1012) (by decide +kernel), List.mem_of_getElem? (i := 1289) (by decide +kernel), List.mem_of_getElem? (i := 1290) (by decide +kernel)⟩
theorem lw_p41 : lw_okq (⟨"GuestWeighsLessModel", "sameOnes", "()I"⟩, 19) := ⟨⟨by decide +kernel, by decide +kernel⟩, List.mem_of_getElem? (i := 1012) (by decide +kernel), List.mem_of_getElem? (i := 1301) (by decide +kernel), List.mem_of_getElem? (i := 1302) (by decide +kernel)⟩
theorem lw_p42 : lw_okq (⟨"GuestWeighsLessModel", "isTold", "(III)Z"⟩, 19) := ⟨⟨by decide +kernel, by decide +kernel⟩, List.mem_of_getElem? (i := 1012) (by decide +kernel), List.mem_of_getElem? (i := 1309) (by decide +kernel), List.mem_of_getElem? (i := 1310) (by decide +kernel)⟩
theorem lw_p43 : lw_okq (⟨"GuestWeighsLessModel", "hasComeSo", "(III)Z"⟩, 19) := ⟨⟨by decide +kernel, by decide +kernel⟩, List.mem_of_getElem? (i := 1012) (by decide +kernel), List.mem_of_getElem? (i := 1321) (by decide +kernel), List.mem_of_getElem? (i := 1322) (by decide +kernel)⟩
theorem lw_p44 : lw_okq (⟨"GuestWeighsLessModel", "hasBy", "(IIIIII)I"⟩, 19) := ⟨⟨by decide +kernel, by decide +kernel⟩, List.mem_of_getElem? (i := 1012) (by decide +kernel), List.mem_of_getElem? (i := 1329) (by decide +kernel), List.mem_of_getElem? (i := 1330) (by decide +kernel)⟩
theorem lw_p45 : lw_okq (⟨"GuestWeighsLessModel", "drawn", "(I)I"⟩, 19) := ⟨⟨by decide +kernel, by decide +kernel⟩, List.mem_of_getElem? (i := 1012) (by decide +kernel), List.mem_of_getElem? (i := 1360) (by decide +kernel), List.mem_of_getElem? (i := 1361) (by decide +kernel)⟩
def lw_privs_3 : List (MethodName × Nat) := [(⟨"GuestWeighsLessModel", "firstLeaves", "()I"⟩, 19), (⟨"GuestWeighsLessModel", "leavesOf", "(I)I"⟩, 19), (⟨"GuestWeighsLessModel", "lighterThan", "(I)I"⟩, 19), (⟨"GuestWeighsLessModel", "hasLeftNext", "(I)Z"⟩, 19), (⟨"GuestWeighsLessModel", "matches", "()V"⟩, 19), (⟨"GuestWeighsLessModel", "leftBy", "(III)I"⟩, 19), (⟨"GuestWeighsLessModel", "pairOf", "(II)I"⟩, 19), (⟨"GuestWeighsLessModel", "bestOf", "(I)I"⟩, 19), (⟨"GuestWeighsLessModel", "partnerOf", "(I)I"⟩, 19), (⟨"GuestWeighsLessModel", "sameOnes", "()I"⟩, 19), (⟨"GuestWeighsLessModel", "isTold", "(III)Z"⟩, 19), (⟨"GuestWeighsLessModel", "hasComeSo", "(III)Z"⟩, 19), (⟨"GuestWeighsLessModel", "hasBy", "(IIIIII)I"⟩, 19), (⟨"GuestWeighsLessModel", "drawn", "(I)I"⟩, 19)]
theorem lw_r3 : ∀ q ∈ lw_privs_3, lw_okq q := List.forall_mem_cons.mpr ⟨lw_p32, List.forall_mem_cons.mpr ⟨lw_p33, List.forall_mem_cons.mpr ⟨lw_p34, List.forall_mem_cons.mpr ⟨lw_p35, List.forall_mem_cons.mpr ⟨lw_p36, List.forall_mem_cons.mpr ⟨lw_p37, List.forall_mem_cons.mpr ⟨lw_p38, List.forall_mem_cons.mpr ⟨lw_p39, List.forall_mem_cons.mpr ⟨lw_p40, List.forall_mem_cons.mpr ⟨lw_p41, List.forall_mem_cons.mpr ⟨lw_p42, List.forall_mem_cons.mpr ⟨lw_p43, List.forall_mem_cons.mpr ⟨lw_p44, List.forall_mem_cons.mpr ⟨lw_p45, fun _ h => absurd h List.not_mem_nil⟩⟩⟩⟩⟩⟩⟩⟩⟩⟩⟩⟩⟩⟩
def lw_privs : List (MethodName × Nat) := lw_privs_1 ++ (lw_privs_2 ++ (lw_privs_3))
def lw_tbl : List Cond := k2_sels lw_privs ++ tables_1
theorem lw_privs_ok : ∀ q ∈ lw_privs, lw_okq q := by
  show ∀ q ∈ lw_privs_1 ++ (lw_privs_2 ++ (lw_privs_3)), lw_okq q
  exact List.forall_mem_append.mpr ⟨lw_r1, List.forall_mem_append.mpr ⟨lw_r2, lw_r3⟩⟩
end
section
def RX0 : String := "GuestWeighsLess$Aunt"
def TX0 : u_T := fun k => match k with
  | 0 => ("GuestWeighsLess$Guest", "kind", "I", true)
  | _ => ("GuestWeighsLess$Guest", "figure", "I", true)
def tyX0 : Nat → FieldType := fun k => match k with
  | 0 => .int
  | _ => .int
abbrev wsX00 : List Cond := u_ws RX0 TX0 2
theorem nmX0 : ∀ a, a < 2 → ∀ b, b < 2 → a ≠ b → (TX0 a).2.1 ≠ (TX0 b).2.1 := by decide +kernel
theorem tyX0_ok : ∀ k, k < 2 → parseFieldDescriptor (TX0 k).2.2.1 = some (tyX0 k) := by decide +kernel
abbrev cX0_init : ByteArray := prog_2_method_1_code
def yX0_init : MethodName := ⟨RX0, "<init>", "(II)V"⟩
abbrev cX0_rings : ByteArray := prog_2_method_2_code
def yX0_rings : MethodName := ⟨RX0, "rings", "()I"⟩
abbrev cX0_food : ByteArray := prog_2_method_3_code
def yX0_food : MethodName := ⟨RX0, "food", "(I)I"⟩
abbrev cX0_danced : ByteArray := prog_2_method_4_code
def yX0_danced : MethodName := ⟨RX0, "danced", "(I)I"⟩
abbrev cX0_lighterBySecret : ByteArray := prog_2_method_5_code
def yX0_lighterBySecret : MethodName := ⟨RX0, "lighterBySecret", "()I"⟩
abbrev cX0_price : ByteArray := prog_2_method_6_code
def yX0_price : MethodName := ⟨RX0, "price", "()I"⟩
def RX1 : String := "GuestWeighsLess$Bishop"
def TX1 : u_T := fun k => match k with
  | 0 => ("GuestWeighsLess$Guest", "kind", "I", true)
  | _ => ("GuestWeighsLess$Guest", "figure", "I", true)
def tyX1 : Nat → FieldType := fun k => match k with
  | 0 => .int
  | _ => .int
abbrev wsX10 : List Cond := u_ws RX1 TX1 2
theorem nmX1 : ∀ a, a < 2 → ∀ b, b < 2 → a ≠ b → (TX1 a).2.1 ≠ (TX1 b).2.1 := by decide +kernel
theorem tyX1_ok : ∀ k, k < 2 → parseFieldDescriptor (TX1 k).2.2.1 = some (tyX1 k) := by decide +kernel
abbrev cX1_init : ByteArray := prog_3_method_1_code
def yX1_init : MethodName := ⟨RX1, "<init>", "(II)V"⟩
abbrev cX1_rings : ByteArray := prog_3_method_2_code
def yX1_rings : MethodName := ⟨RX1, "rings", "()I"⟩
abbrev cX1_food : ByteArray := prog_3_method_3_code
def yX1_food : MethodName := ⟨RX1, "food", "(I)I"⟩
abbrev cX1_lighterBySecret : ByteArray := prog_3_method_4_code
def yX1_lighterBySecret : MethodName := ⟨RX1, "lighterBySecret", "()I"⟩
abbrev cX1_stay : ByteArray := prog_3_method_5_code
def yX1_stay : MethodName := ⟨RX1, "stay", "()I"⟩
abbrev cX1_price : ByteArray := prog_3_method_6_code
def yX1_price : MethodName := ⟨RX1, "price", "()I"⟩
abbrev cX1_fail : ByteArray := prog_3_method_7_code
def yX1_fail : MethodName := ⟨RX1, "fail", "()V"⟩
def RX2 : String := "GuestWeighsLess$Child"
def TX2 : u_T := fun k => match k with
  | 0 => ("GuestWeighsLess$Guest", "kind", "I", true)
  | _ => ("GuestWeighsLess$Guest", "figure", "I", true)
def tyX2 : Nat → FieldType := fun k => match k with
  | 0 => .int
  | _ => .int
abbrev wsX20 : List Cond := u_ws RX2 TX2 2
theorem nmX2 : ∀ a, a < 2 → ∀ b, b < 2 → a ≠ b → (TX2 a).2.1 ≠ (TX2 b).2.1 := by decide +kernel
theorem tyX2_ok : ∀ k, k < 2 → parseFieldDescriptor (TX2 k).2.2.1 = some (tyX2 k) := by decide +kernel
abbrev cX2_init : ByteArray := prog_4_method_1_code
def yX2_init : MethodName := ⟨RX2, "<init>", "(II)V"⟩
abbrev cX2_food : ByteArray := prog_4_method_2_code
def yX2_food : MethodName := ⟨RX2, "food", "(I)I"⟩
abbrev cX2_danced : ByteArray := prog_4_method_3_code
def yX2_danced : MethodName := ⟨RX2, "danced", "(I)I"⟩
abbrev cX2_lighterBySecret : ByteArray := prog_4_method_4_code
def yX2_lighterBySecret : MethodName := ⟨RX2, "lighterBySecret", "()I"⟩
abbrev cX2_stay : ByteArray := prog_4_method_5_code
def yX2_stay : MethodName := ⟨RX2, "stay", "()I"⟩
abbrev cX2_price : ByteArray := prog_4_method_6_code
def yX2_price : MethodName := ⟨RX2, "price", "()I"⟩
abbrev cX2_fail : ByteArray := prog_4_method_7_code
def yX2_fail : MethodName := ⟨RX2, "fail", "()V"⟩
def RX3 : String := "GuestWeighsLess$Fugitive"
def TX3 : u_T := fun k => match k with
  | 0 => ("GuestWeighsLess$Guest", "kind", "I", true)
  | _ => ("GuestWeighsLess$Guest", "figure", "I", true)
def tyX3 : Nat → FieldType := fun k => match k with
  | 0 => .int
  | _ => .int
abbrev wsX30 : List Cond := u_ws RX3 TX3 2
theorem nmX3 : ∀ a, a < 2 → ∀ b, b < 2 → a ≠ b → (TX3 a).2.1 ≠ (TX3 b).2.1 := by decide +kernel
theorem tyX3_ok : ∀ k, k < 2 → parseFieldDescriptor (TX3 k).2.2.1 = some (tyX3 k) := by decide +kernel
abbrev cX3_init : ByteArray := prog_5_method_1_code
def yX3_init : MethodName := ⟨RX3, "<init>", "(II)V"⟩
abbrev cX3_rings : ByteArray := prog_5_method_2_code
def yX3_rings : MethodName := ⟨RX3, "rings", "()I"⟩
abbrev cX3_food : ByteArray := prog_5_method_3_code
def yX3_food : MethodName := ⟨RX3, "food", "(I)I"⟩
abbrev cX3_danced : ByteArray := prog_5_method_4_code
def yX3_danced : MethodName := ⟨RX3, "danced", "(I)I"⟩
abbrev cX3_lighterBySecret : ByteArray := prog_5_method_5_code
def yX3_lighterBySecret : MethodName := ⟨RX3, "lighterBySecret", "()I"⟩
abbrev cX3_price : ByteArray := prog_5_method_6_code
def yX3_price : MethodName := ⟨RX3, "price", "()I"⟩
def RX4 : String := "GuestWeighsLess$Guest"
def TX4 : u_T := fun k => match k with
  | 0 => ("GuestWeighsLess$Guest", "kind", "I", true)
  | _ => ("GuestWeighsLess$Guest", "figure", "I", true)
def tyX4 : Nat → FieldType := fun k => match k with
  | 0 => .int
  | _ => .int
abbrev wsX40 : List Cond := u_ws RX4 TX4 2
theorem nmX4 : ∀ a, a < 2 → ∀ b, b < 2 → a ≠ b → (TX4 a).2.1 ≠ (TX4 b).2.1 := by decide +kernel
theorem tyX4_ok : ∀ k, k < 2 → parseFieldDescriptor (TX4 k).2.2.1 = some (tyX4 k) := by decide +kernel
abbrev cX4_init : ByteArray := prog_6_method_1_code
def yX4_init : MethodName := ⟨RX4, "<init>", "(II)V"⟩
abbrev cX4_rings : ByteArray := prog_6_method_2_code
def yX4_rings : MethodName := ⟨RX4, "rings", "()I"⟩
abbrev cX4_food : ByteArray := prog_6_method_3_code
def yX4_food : MethodName := ⟨RX4, "food", "(I)I"⟩
abbrev cX4_danced : ByteArray := prog_6_method_4_code
def yX4_danced : MethodName := ⟨RX4, "danced", "(I)I"⟩
abbrev cX4_lighterBySecret : ByteArray := prog_6_method_5_code
def yX4_lighterBySecret : MethodName := ⟨RX4, "lighterBySecret", "()I"⟩
abbrev cX4_stay : ByteArray := prog_6_method_6_code
def yX4_stay : MethodName := ⟨RX4, "stay", "()I"⟩
abbrev cX4_price : ByteArray := prog_6_method_7_code
def yX4_price : MethodName := ⟨RX4, "price", "()I"⟩
abbrev cX4_fail : ByteArray := prog_6_method_8_code
def yX4_fail : MethodName := ⟨RX4, "fail", "()V"⟩
def RX5 : String := "GuestWeighsLess$House"
def TX5 : u_T := fun k => match k with
  | 0 => ("GuestWeighsLess$House", "kind", "[LGuestWeighsLess$Guest;", true)
  | 1 => ("GuestWeighsLess$House", "weight", "[I", true)
  | 2 => ("GuestWeighsLess$House", "entered", "[I", true)
  | 3 => ("GuestWeighsLess$House", "secrets", "[I", true)
  | 4 => ("GuestWeighsLess$House", "came", "[I", true)
  | 5 => ("GuestWeighsLess$House", "guests", "I", false)
  | 6 => ("GuestWeighsLess$House", "inside", "I", false)
  | 7 => ("GuestWeighsLess$House", "board", "I", false)
  | 8 => ("GuestWeighsLess$House", "dance", "I", false)
  | 9 => ("GuestWeighsLess$House", "relief", "I", false)
  | _ => ("GuestWeighsLess$House", "day", "I", false)
def tyX5 : Nat → FieldType := fun k => match k with
  | 0 => .array (.object "GuestWeighsLess$Guest")
  | 1 => .array .int
  | 2 => .array .int
  | 3 => .array .int
  | 4 => .array .int
  | 5 => .int
  | 6 => .int
  | 7 => .int
  | 8 => .int
  | 9 => .int
  | _ => .int
abbrev wsX50 : List Cond := u_ws RX5 TX5 11
theorem nmX5 : ∀ a, a < 11 → ∀ b, b < 11 → a ≠ b → (TX5 a).2.1 ≠ (TX5 b).2.1 := by decide +kernel
theorem tyX5_ok : ∀ k, k < 11 → parseFieldDescriptor (TX5 k).2.2.1 = some (tyX5 k) := by decide +kernel
abbrev cX5_init : ByteArray := prog_7_method_1_code
def yX5_init : MethodName := ⟨RX5, "<init>", "()V"⟩
abbrev cX5_becomes : ByteArray := prog_7_method_2_code
def yX5_becomes : MethodName := ⟨RX5, "becomes", "(LGuestWeighsLess$House;)V"⟩
abbrev cX5_knows : ByteArray := prog_7_method_3_code
def yX5_knows : MethodName := ⟨RX5, "knows", "(I)Z"⟩
abbrev cX5_isFull : ByteArray := prog_7_method_4_code
def yX5_isFull : MethodName := ⟨RX5, "isFull", "()Z"⟩
abbrev cX5_isIn : ByteArray := prog_7_method_5_code
def yX5_isIn : MethodName := ⟨RX5, "isIn", "(I)Z"⟩
abbrev cX5_takeIn : ByteArray := prog_7_method_6_code
def yX5_takeIn : MethodName := ⟨RX5, "takeIn", "(LGuestWeighsLess$Guest;I)V"⟩
abbrev cX5_hasStayed : ByteArray := prog_7_method_7_code
def yX5_hasStayed : MethodName := ⟨RX5, "hasStayed", "(I)Z"⟩
abbrev cX5_mayGo : ByteArray := prog_7_method_8_code
def yX5_mayGo : MethodName := ⟨RX5, "mayGo", "(I)Z"⟩
abbrev cX5_lacks : ByteArray := prog_7_method_9_code
def yX5_lacks : MethodName := ⟨RX5, "lacks", "(I)I"⟩
abbrev cX5_canTell : ByteArray := prog_7_method_10_code
def yX5_canTell : MethodName := ⟨RX5, "canTell", "(I)Z"⟩
abbrev cX5_tellSecret : ByteArray := prog_7_method_11_code
def yX5_tellSecret : MethodName := ⟨RX5, "tellSecret", "(I)V"⟩
abbrev cX5_canLend : ByteArray := prog_7_method_12_code
def yX5_canLend : MethodName := ⟨RX5, "canLend", "(III)Z"⟩
abbrev cX5_lendPounds : ByteArray := prog_7_method_13_code
def yX5_lendPounds : MethodName := ⟨RX5, "lendPounds", "(III)V"⟩
abbrev cX5_foodOf : ByteArray := prog_7_method_14_code
def yX5_foodOf : MethodName := ⟨RX5, "foodOf", "(I)I"⟩
abbrev cX5_passDays : ByteArray := prog_7_method_15_code
def yX5_passDays : MethodName := ⟨RX5, "passDays", "(I)V"⟩
abbrev cX5_passDay : ByteArray := prog_7_method_16_code
def yX5_passDay : MethodName := ⟨RX5, "passDay", "()V"⟩
abbrev cX5_passDayOf : ByteArray := prog_7_method_17_code
def yX5_passDayOf : MethodName := ⟨RX5, "passDayOf", "(I)V"⟩
abbrev cX5_passDayEating : ByteArray := prog_7_method_18_code
def yX5_passDayEating : MethodName := ⟨RX5, "passDayEating", "(II)V"⟩
abbrev cX5_eatAndDance : ByteArray := prog_7_method_19_code
def yX5_eatAndDance : MethodName := ⟨RX5, "eatAndDance", "(II)V"⟩
abbrev cX5_goAway : ByteArray := prog_7_method_20_code
def yX5_goAway : MethodName := ⟨RX5, "goAway", "(I)V"⟩
abbrev cX5_weightOfAll : ByteArray := prog_7_method_21_code
def yX5_weightOfAll : MethodName := ⟨RX5, "weightOfAll", "()I"⟩
abbrev cX5_ledgerOfAll : ByteArray := prog_7_method_22_code
def yX5_ledgerOfAll : MethodName := ⟨RX5, "ledgerOfAll", "()I"⟩
abbrev cX5_secretsOfAll : ByteArray := prog_7_method_23_code
def yX5_secretsOfAll : MethodName := ⟨RX5, "secretsOfAll", "()I"⟩
abbrev cX5_withoutSecrets : ByteArray := prog_7_method_24_code
def yX5_withoutSecrets : MethodName := ⟨RX5, "withoutSecrets", "()I"⟩
abbrev cX5_alikeTwos : ByteArray := prog_7_method_25_code
def yX5_alikeTwos : MethodName := ⟨RX5, "alikeTwos", "()I"⟩
abbrev cX5_heaviest : ByteArray := prog_7_method_26_code
def yX5_heaviest : MethodName := ⟨RX5, "heaviest", "()I"⟩
abbrev cX5_byWeight : ByteArray := prog_7_method_27_code
def yX5_byWeight : MethodName := ⟨RX5, "byWeight", "(I)I"⟩
abbrev cX5_lighterThan : ByteArray := prog_7_method_28_code
def yX5_lighterThan : MethodName := ⟨RX5, "lighterThan", "(I)I"⟩
def RX6 : String := "GuestWeighsLess$Poor"
def TX6 : u_T := fun k => match k with
  | 0 => ("GuestWeighsLess$Guest", "kind", "I", true)
  | _ => ("GuestWeighsLess$Guest", "figure", "I", true)
def tyX6 : Nat → FieldType := fun k => match k with
  | 0 => .int
  | _ => .int
abbrev wsX60 : List Cond := u_ws RX6 TX6 2
theorem nmX6 : ∀ a, a < 2 → ∀ b, b < 2 → a ≠ b → (TX6 a).2.1 ≠ (TX6 b).2.1 := by decide +kernel
theorem tyX6_ok : ∀ k, k < 2 → parseFieldDescriptor (TX6 k).2.2.1 = some (tyX6 k) := by decide +kernel
abbrev cX6_init : ByteArray := prog_8_method_1_code
def yX6_init : MethodName := ⟨RX6, "<init>", "(II)V"⟩
abbrev cX6_food : ByteArray := prog_8_method_2_code
def yX6_food : MethodName := ⟨RX6, "food", "(I)I"⟩
abbrev cX6_danced : ByteArray := prog_8_method_3_code
def yX6_danced : MethodName := ⟨RX6, "danced", "(I)I"⟩
abbrev cX6_lighterBySecret : ByteArray := prog_8_method_4_code
def yX6_lighterBySecret : MethodName := ⟨RX6, "lighterBySecret", "()I"⟩
abbrev cX6_price : ByteArray := prog_8_method_5_code
def yX6_price : MethodName := ⟨RX6, "price", "()I"⟩
def RX7 : String := "GuestWeighsLess$Row"
def TX7 : u_T := fun k => match k with
  | 0 => ("GuestWeighsLess$Row", "sort", "I", true)
  | _ => ("GuestWeighsLess$Row", "elements", "[I", true)
def tyX7 : Nat → FieldType := fun k => match k with
  | 0 => .int
  | _ => .array .int
abbrev wsX70 : List Cond := u_ws RX7 TX7 2
theorem nmX7 : ∀ a, a < 2 → ∀ b, b < 2 → a ≠ b → (TX7 a).2.1 ≠ (TX7 b).2.1 := by decide +kernel
theorem tyX7_ok : ∀ k, k < 2 → parseFieldDescriptor (TX7 k).2.2.1 = some (tyX7 k) := by decide +kernel
abbrev cX7_init : ByteArray := prog_9_method_1_code
def yX7_init : MethodName := ⟨RX7, "<init>", "(II)V"⟩
abbrev cX7_size : ByteArray := prog_9_method_2_code
def yX7_size : MethodName := ⟨RX7, "size", "()I"⟩
abbrev cX7_hasPlace : ByteArray := prog_9_method_3_code
def yX7_hasPlace : MethodName := ⟨RX7, "hasPlace", "(I)Z"⟩
abbrev cX7_hasPart : ByteArray := prog_9_method_4_code
def yX7_hasPart : MethodName := ⟨RX7, "hasPart", "(II)Z"⟩
abbrev cX7_at : ByteArray := prog_9_method_5_code
def yX7_at : MethodName := ⟨RX7, "at", "(I)I"⟩
abbrev cX7_set : ByteArray := prog_9_method_6_code
def yX7_set : MethodName := ⟨RX7, "set", "(II)V"⟩
abbrev cX7_lowestBits : ByteArray := prog_9_method_7_code
def yX7_lowestBits : MethodName := ⟨RX7, "lowestBits", "(I)I"⟩
abbrev cX7_isSkipped : ByteArray := prog_9_method_8_code
def yX7_isSkipped : MethodName := ⟨RX7, "isSkipped", "(I)Z"⟩
abbrev cX7_take : ByteArray := prog_9_method_9_code
def yX7_take : MethodName := ⟨RX7, "take", "(ILGuestWeighsLess$Row;II)V"⟩
def RX8 : String := "GuestWeighsLess$Singer"
def TX8 : u_T := fun k => match k with
  | 0 => ("GuestWeighsLess$Guest", "kind", "I", true)
  | _ => ("GuestWeighsLess$Guest", "figure", "I", true)
def tyX8 : Nat → FieldType := fun k => match k with
  | 0 => .int
  | _ => .int
abbrev wsX80 : List Cond := u_ws RX8 TX8 2
theorem nmX8 : ∀ a, a < 2 → ∀ b, b < 2 → a ≠ b → (TX8 a).2.1 ≠ (TX8 b).2.1 := by decide +kernel
theorem tyX8_ok : ∀ k, k < 2 → parseFieldDescriptor (TX8 k).2.2.1 = some (tyX8 k) := by decide +kernel
abbrev cX8_init : ByteArray := prog_10_method_1_code
def yX8_init : MethodName := ⟨RX8, "<init>", "(II)V"⟩
abbrev cX8_danced : ByteArray := prog_10_method_2_code
def yX8_danced : MethodName := ⟨RX8, "danced", "(I)I"⟩
abbrev cX8_price : ByteArray := prog_10_method_3_code
def yX8_price : MethodName := ⟨RX8, "price", "()I"⟩
def RX9 : String := "GuestWeighsLess$Swollen"
def TX9 : u_T := fun k => match k with
  | 0 => ("GuestWeighsLess$Guest", "kind", "I", true)
  | _ => ("GuestWeighsLess$Guest", "figure", "I", true)
def tyX9 : Nat → FieldType := fun k => match k with
  | 0 => .int
  | _ => .int
abbrev wsX90 : List Cond := u_ws RX9 TX9 2
theorem nmX9 : ∀ a, a < 2 → ∀ b, b < 2 → a ≠ b → (TX9 a).2.1 ≠ (TX9 b).2.1 := by decide +kernel
theorem tyX9_ok : ∀ k, k < 2 → parseFieldDescriptor (TX9 k).2.2.1 = some (tyX9 k) := by decide +kernel
abbrev cX9_init : ByteArray := prog_11_method_1_code
def yX9_init : MethodName := ⟨RX9, "<init>", "(II)V"⟩
abbrev cX9_rings : ByteArray := prog_11_method_2_code
def yX9_rings : MethodName := ⟨RX9, "rings", "()I"⟩
abbrev cX9_price : ByteArray := prog_11_method_3_code
def yX9_price : MethodName := ⟨RX9, "price", "()I"⟩
abbrev cX9_fail : ByteArray := prog_11_method_4_code
def yX9_fail : MethodName := ⟨RX9, "fail", "()V"⟩
def RX10 : String := "GuestWeighsLess$Text"
def TX10 : u_T := fun k => match k with
  | _ => ("GuestWeighsLess$Text", "bytes", "LGuestWeighsLess$Row;", true)
def tyX10 : Nat → FieldType := fun k => match k with
  | _ => .object "GuestWeighsLess$Row"
abbrev wsX100 : List Cond := u_ws RX10 TX10 1
theorem nmX10 : ∀ a, a < 1 → ∀ b, b < 1 → a ≠ b → (TX10 a).2.1 ≠ (TX10 b).2.1 := by decide +kernel
theorem tyX10_ok : ∀ k, k < 1 → parseFieldDescriptor (TX10 k).2.2.1 = some (tyX10 k) := by decide +kernel
abbrev cX10_init : ByteArray := prog_12_method_1_code
def yX10_init : MethodName := ⟨RX10, "<init>", "(LGuestWeighsLess$Row;)V"⟩
abbrev cX10_firstFlaw : ByteArray := prog_12_method_2_code
def yX10_firstFlaw : MethodName := ⟨RX10, "firstFlaw", "()I"⟩
abbrev cX10_flawInStatement : ByteArray := prog_12_method_3_code
def yX10_flawInStatement : MethodName := ⟨RX10, "flawInStatement", "(I)I"⟩
abbrev cX10_lengthAt : ByteArray := prog_12_method_4_code
def yX10_lengthAt : MethodName := ⟨RX10, "lengthAt", "(I)I"⟩
abbrev cX10_digitsBehind : ByteArray := prog_12_method_5_code
def yX10_digitsBehind : MethodName := ⟨RX10, "digitsBehind", "(I)I"⟩
abbrev cX10_digit : ByteArray := prog_12_method_6_code
def yX10_digit : MethodName := ⟨RX10, "digit", "(I)I"⟩
abbrev cX10_twoDigits : ByteArray := prog_12_method_7_code
def yX10_twoDigits : MethodName := ⟨RX10, "twoDigits", "(I)I"⟩
abbrev cX10_follow : ByteArray := prog_12_method_8_code
def yX10_follow : MethodName := ⟨RX10, "follow", "(LGuestWeighsLess$House;I)Z"⟩
abbrev cX10_takeIn : ByteArray := prog_12_method_9_code
def yX10_takeIn : MethodName := ⟨RX10, "takeIn", "(LGuestWeighsLess$House;III)Z"⟩
abbrev cX10_setTable : ByteArray := prog_12_method_10_code
def yX10_setTable : MethodName := ⟨RX10, "setTable", "(LGuestWeighsLess$House;II)Z"⟩
abbrev cX10_tellSecret : ByteArray := prog_12_method_11_code
def yX10_tellSecret : MethodName := ⟨RX10, "tellSecret", "(LGuestWeighsLess$House;I)Z"⟩
abbrev cX10_lendPounds : ByteArray := prog_12_method_12_code
def yX10_lendPounds : MethodName := ⟨RX10, "lendPounds", "(LGuestWeighsLess$House;III)Z"⟩
abbrev cX10_setSecrets : ByteArray := prog_12_method_13_code
def yX10_setSecrets : MethodName := ⟨RX10, "setSecrets", "(LGuestWeighsLess$House;II)Z"⟩
abbrev cX10_passDays : ByteArray := prog_12_method_14_code
def yX10_passDays : MethodName := ⟨RX10, "passDays", "(LGuestWeighsLess$House;I)Z"⟩
def RX11 : String := "GuestWeighsLess"
def TX11 : u_T := fun k => match k with
  | 0 => ("GuestWeighsLess", "now", "LGuestWeighsLess$House;", true)
  | 1 => ("GuestWeighsLess", "mind", "LGuestWeighsLess$House;", true)
  | 2 => ("GuestWeighsLess", "kept", "LGuestWeighsLess$House;", true)
  | 3 => ("GuestWeighsLess", "imageTaken", "Z", false)
  | 4 => ("GuestWeighsLess", "kindsHeld", "[LGuestWeighsLess$Guest;", true)
  | 5 => ("GuestWeighsLess", "rowsHeld", "[LGuestWeighsLess$Row;", true)
  | 6 => ("GuestWeighsLess", "pairGone", "[I", true)
  | _ => ("GuestWeighsLess", "mostGone", "[I", true)
def tyX11 : Nat → FieldType := fun k => match k with
  | 0 => .object "GuestWeighsLess$House"
  | 1 => .object "GuestWeighsLess$House"
  | 2 => .object "GuestWeighsLess$House"
  | 3 => .boolean
  | 4 => .array (.object "GuestWeighsLess$Guest")
  | 5 => .array (.object "GuestWeighsLess$Row")
  | 6 => .array .int
  | _ => .array .int
abbrev wsX110 : List Cond := u_ws RX11 TX11 8
theorem nmX11 : ∀ a, a < 8 → ∀ b, b < 8 → a ≠ b → (TX11 a).2.1 ≠ (TX11 b).2.1 := by decide +kernel
theorem tyX11_ok : ∀ k, k < 8 → parseFieldDescriptor (TX11 k).2.2.1 = some (tyX11 k) := by decide +kernel
abbrev cX11_init : ByteArray := prog_1_method_1_code
def yX11_init : MethodName := ⟨RX11, "<init>", "()V"⟩
abbrev cX11_house : ByteArray := prog_1_method_2_code
def yX11_house : MethodName := ⟨RX11, "house", "(I)I"⟩
abbrev cX11_guest : ByteArray := prog_1_method_3_code
def yX11_guest : MethodName := ⟨RX11, "guest", "(II)I"⟩
abbrev cX11_comes : ByteArray := prog_1_method_4_code
def yX11_comes : MethodName := ⟨RX11, "comes", "(II)I"⟩
abbrev cX11_tells : ByteArray := prog_1_method_5_code
def yX11_tells : MethodName := ⟨RX11, "tells", "(I)I"⟩
abbrev cX11_lends : ByteArray := prog_1_method_6_code
def yX11_lends : MethodName := ⟨RX11, "lends", "(III)I"⟩
abbrev cX11_table : ByteArray := prog_1_method_7_code
def yX11_table : MethodName := ⟨RX11, "table", "(II)I"⟩
abbrev cX11_weighs : ByteArray := prog_1_method_8_code
def yX11_weighs : MethodName := ⟨RX11, "weighs", "(II)I"⟩
abbrev cX11_days : ByteArray := prog_1_method_9_code
def yX11_days : MethodName := ⟨RX11, "days", "(I)I"⟩
abbrev cX11_weightThen : ByteArray := prog_1_method_10_code
def yX11_weightThen : MethodName := ⟨RX11, "weightThen", "(II)I"⟩
abbrev cX11_then : ByteArray := prog_1_method_11_code
def yX11_then : MethodName := ⟨RX11, "then", "(II)I"⟩
abbrev cX11_leaves : ByteArray := prog_1_method_12_code
def yX11_leaves : MethodName := ⟨RX11, "leaves", "(I)I"⟩
abbrev cX11_order : ByteArray := prog_1_method_13_code
def yX11_order : MethodName := ⟨RX11, "order", "(I)I"⟩
abbrev cX11_firstToLeave : ByteArray := prog_1_method_14_code
def yX11_firstToLeave : MethodName := ⟨RX11, "firstToLeave", "()I"⟩
abbrev cX11_feed : ByteArray := prog_1_method_15_code
def yX11_feed : MethodName := ⟨RX11, "feed", "(II)I"⟩
abbrev cX11_empty : ByteArray := prog_1_method_16_code
def yX11_empty : MethodName := ⟨RX11, "empty", "(I)I"⟩
abbrev cX11_tell : ByteArray := prog_1_method_17_code
def yX11_tell : MethodName := ⟨RX11, "tell", "(I)I"⟩
abbrev cX11_loan : ByteArray := prog_1_method_18_code
def yX11_loan : MethodName := ⟨RX11, "loan", "(II)I"⟩
abbrev cX11_waits : ByteArray := prog_1_method_19_code
def yX11_waits : MethodName := ⟨RX11, "waits", "(I)I"⟩
abbrev cX11_pairs : ByteArray := prog_1_method_20_code
def yX11_pairs : MethodName := ⟨RX11, "pairs", "(I)I"⟩
abbrev cX11_ledger : ByteArray := prog_1_method_21_code
def yX11_ledger : MethodName := ⟨RX11, "ledger", "()I"⟩
abbrev cX11_tears : ByteArray := prog_1_method_22_code
def yX11_tears : MethodName := ⟨RX11, "tears", "(I)I"⟩
abbrev cX11_goesNextDay : ByteArray := prog_1_method_23_code
def yX11_goesNextDay : MethodName := ⟨RX11, "goesNextDay", "(I)Z"⟩
abbrev cX11_goneNextDay : ByteArray := prog_1_method_24_code
def yX11_goneNextDay : MethodName := ⟨RX11, "goneNextDay", "()I"⟩
abbrev cX11_planPairs : ByteArray := prog_1_method_25_code
def yX11_planPairs : MethodName := ⟨RX11, "planPairs", "()V"⟩
abbrev cX11_goneIfLent : ByteArray := prog_1_method_26_code
def yX11_goneIfLent : MethodName := ⟨RX11, "goneIfLent", "(II)I"⟩
abbrev cX11_mostGoneOf : ByteArray := prog_1_method_27_code
def yX11_mostGoneOf : MethodName := ⟨RX11, "mostGoneOf", "(I)I"⟩
abbrev cX11_canPair : ByteArray := prog_1_method_28_code
def yX11_canPair : MethodName := ⟨RX11, "canPair", "(III)Z"⟩
abbrev cX11_goneWithPair : ByteArray := prog_1_method_29_code
def yX11_goneWithPair : MethodName := ⟨RX11, "goneWithPair", "(III)I"⟩
abbrev cX11_partnerOf : ByteArray := prog_1_method_30_code
def yX11_partnerOf : MethodName := ⟨RX11, "partnerOf", "(I)I"⟩
abbrev cX11_partnerOfLowest : ByteArray := prog_1_method_31_code
def yX11_partnerOfLowest : MethodName := ⟨RX11, "partnerOfLowest", "(I)I"⟩
abbrev cX11_whatIs : ByteArray := prog_1_method_32_code
def yX11_whatIs : MethodName := ⟨RX11, "whatIs", "(III)I"⟩
abbrev cX11_cameWith : ByteArray := prog_1_method_33_code
def yX11_cameWith : MethodName := ⟨RX11, "cameWith", "(III)I"⟩
abbrev cX11_two : ByteArray := prog_1_method_34_code
def yX11_two : MethodName := ⟨RX11, "two", "(III)I"⟩
abbrev cX11_feasts : ByteArray := prog_1_method_35_code
def yX11_feasts : MethodName := ⟨RX11, "feasts", "(IIII)J"⟩
abbrev cX11_mean : ByteArray := prog_1_method_36_code
def yX11_mean : MethodName := ⟨RX11, "mean", "(I)J"⟩
abbrev cX11_kindsBy : ByteArray := prog_1_method_37_code
def yX11_kindsBy : MethodName := ⟨RX11, "kindsBy", "(LGuestWeighsLess$Row;I)I"⟩
abbrev cX11_figuresBy : ByteArray := prog_1_method_38_code
def yX11_figuresBy : MethodName := ⟨RX11, "figuresBy", "(LGuestWeighsLess$Row;I)I"⟩
abbrev cX11_weighedSoAs : ByteArray := prog_1_method_39_code
def yX11_weighedSoAs : MethodName := ⟨RX11, "weighedSoAs", "(LGuestWeighsLess$Guest;LGuestWeighsLess$Row;I)Z"⟩
abbrev cX11_enteredBy : ByteArray := prog_1_method_40_code
def yX11_enteredBy : MethodName := ⟨RX11, "enteredBy", "(LGuestWeighsLess$Row;II)I"⟩
abbrev cX11_worthOfChoice : ByteArray := prog_1_method_41_code
def yX11_worthOfChoice : MethodName := ⟨RX11, "worthOfChoice", "(III)I"⟩
abbrev cX11_hasLeftBehindFeasts : ByteArray := prog_1_method_42_code
def yX11_hasLeftBehindFeasts : MethodName := ⟨RX11, "hasLeftBehindFeasts", "(III)Z"⟩
abbrev cX11_forged : ByteArray := prog_1_method_43_code
def yX11_forged : MethodName := ⟨RX11, "forged", "(I)I"⟩
abbrev cX11_judge : ByteArray := prog_1_method_44_code
def yX11_judge : MethodName := ⟨RX11, "judge", "(I)I"⟩
abbrev cX11_seasons : ByteArray := prog_1_method_45_code
def yX11_seasons : MethodName := ⟨RX11, "seasons", "(III)I"⟩
abbrev cX11_nextSeed : ByteArray := prog_1_method_46_code
def yX11_nextSeed : MethodName := ⟨RX11, "nextSeed", "(I)I"⟩
abbrev cX11_drawBelow : ByteArray := prog_1_method_47_code
def yX11_drawBelow : MethodName := ⟨RX11, "drawBelow", "(II)I"⟩
abbrev cX11_image : ByteArray := prog_1_method_48_code
def yX11_image : MethodName := ⟨RX11, "image", "()I"⟩
abbrev cX11_restore : ByteArray := prog_1_method_49_code
def yX11_restore : MethodName := ⟨RX11, "restore", "()I"⟩
abbrev cX11_count : ByteArray := prog_1_method_50_code
def yX11_count : MethodName := ⟨RX11, "count", "(I)I"⟩
abbrev cX11_keep : ByteArray := prog_1_method_51_code
def yX11_keep : MethodName := ⟨RX11, "keep", "(IIII)I"⟩
abbrev cX11_row : ByteArray := prog_1_method_52_code
def yX11_row : MethodName := ⟨RX11, "row", "(III)I"⟩
abbrev cX11_put : ByteArray := prog_1_method_53_code
def yX11_put : MethodName := ⟨RX11, "put", "(III)I"⟩
abbrev cX11_element : ByteArray := prog_1_method_54_code
def yX11_element : MethodName := ⟨RX11, "element", "(II)J"⟩
abbrev cX11_copy : ByteArray := prog_1_method_55_code
def yX11_copy : MethodName := ⟨RX11, "copy", "(IIIII)I"⟩
abbrev cX11_cost : ByteArray := prog_1_method_56_code
def yX11_cost : MethodName := ⟨RX11, "cost", "(I)I"⟩
abbrev cX11_toss : ByteArray := prog_1_method_57_code
def yX11_toss : MethodName := ⟨RX11, "toss", "(I)I"⟩
abbrev cX11_failureOf : ByteArray := prog_1_method_58_code
def yX11_failureOf : MethodName := ⟨RX11, "failureOf", "(LGuestWeighsLess$Guest;)I"⟩
abbrev cX11_isShelf : ByteArray := prog_1_method_59_code
def yX11_isShelf : MethodName := ⟨RX11, "isShelf", "(I)Z"⟩
abbrev cX11_holdsNothing : ByteArray := prog_1_method_60_code
def yX11_holdsNothing : MethodName := ⟨RX11, "holdsNothing", "(I)Z"⟩
abbrev cX11_kindOn : ByteArray := prog_1_method_61_code
def yX11_kindOn : MethodName := ⟨RX11, "kindOn", "(I)LGuestWeighsLess$Guest;"⟩
abbrev cX11_rowOn : ByteArray := prog_1_method_62_code
def yX11_rowOn : MethodName := ⟨RX11, "rowOn", "(I)LGuestWeighsLess$Row;"⟩
abbrev cX11_whyNoKind : ByteArray := prog_1_method_63_code
def yX11_whyNoKind : MethodName := ⟨RX11, "whyNoKind", "(I)I"⟩
abbrev cX11_whyNoRow : ByteArray := prog_1_method_64_code
def yX11_whyNoRow : MethodName := ⟨RX11, "whyNoRow", "(I)I"⟩
abbrev cX11_areTwo : ByteArray := prog_1_method_65_code
def yX11_areTwo : MethodName := ⟨RX11, "areTwo", "(II)Z"⟩
abbrev cX11_isWeight : ByteArray := prog_1_method_66_code
def yX11_isWeight : MethodName := ⟨RX11, "isWeight", "(I)Z"⟩
abbrev cX11_isDigit : ByteArray := prog_1_method_67_code
def yX11_isDigit : MethodName := ⟨RX11, "isDigit", "(I)Z"⟩
abbrev cX11_isDaysOn : ByteArray := prog_1_method_68_code
def yX11_isDaysOn : MethodName := ⟨RX11, "isDaysOn", "(I)Z"⟩
abbrev cX11_isPart : ByteArray := prog_1_method_69_code
def yX11_isPart : MethodName := ⟨RX11, "isPart", "(I)Z"⟩
abbrev cX11_lowestOf : ByteArray := prog_1_method_70_code
def yX11_lowestOf : MethodName := ⟨RX11, "lowestOf", "(I)I"⟩
abbrev cX11_power : ByteArray := prog_1_method_71_code
def yX11_power : MethodName := ⟨RX11, "power", "(II)J"⟩
abbrev cX11_leastTerms : ByteArray := prog_1_method_72_code
def yX11_leastTerms : MethodName := ⟨RX11, "leastTerms", "(JJI)J"⟩
abbrev cX11_kindOf : ByteArray := prog_1_method_73_code
def yX11_kindOf : MethodName := ⟨RX11, "kindOf", "(II)LGuestWeighsLess$Guest;"⟩
def RX12 : String := "GuestWeighsLessModel"
def TX12 : u_T := fun k => match k with
  | 0 => ("GuestWeighsLessModel", "s", "[I", true)
  | 1 => ("GuestWeighsLessModel", "m", "[I", true)
  | 2 => ("GuestWeighsLessModel", "image", "[I", true)
  | 3 => ("GuestWeighsLessModel", "was", "[I", true)
  | 4 => ("GuestWeighsLessModel", "hasImage", "Z", false)
  | 5 => ("GuestWeighsLessModel", "place", "I", false)
  | 6 => ("GuestWeighsLessModel", "rowAt", "I", false)
  | 7 => ("GuestWeighsLessModel", "rowEnd", "I", false)
  | 8 => ("GuestWeighsLessModel", "numbers", "[I", true)
  | 9 => ("GuestWeighsLessModel", "brings", "[I", true)
  | 10 => ("GuestWeighsLessModel", "most", "[I", true)
  | 11 => ("GuestWeighsLessModel", "seed", "I", false)
  | 12 => ("GuestWeighsLessModel", "kept", "[I", true)
  | 13 => ("GuestWeighsLessModel", "keptKind", "[I", true)
  | 14 => ("GuestWeighsLessModel", "keptFigure", "[I", true)
  | 15 => ("GuestWeighsLessModel", "sort", "[I", true)
  | 16 => ("GuestWeighsLessModel", "size", "[I", true)
  | 17 => ("GuestWeighsLessModel", "element", "[I", true)
  | _ => ("GuestWeighsLessModel", "thrown", "I", false)
def tyX12 : Nat → FieldType := fun k => match k with
  | 0 => .array .int
  | 1 => .array .int
  | 2 => .array .int
  | 3 => .array .int
  | 4 => .boolean
  | 5 => .int
  | 6 => .int
  | 7 => .int
  | 8 => .array .int
  | 9 => .array .int
  | 10 => .array .int
  | 11 => .int
  | 12 => .array .int
  | 13 => .array .int
  | 14 => .array .int
  | 15 => .array .int
  | 16 => .array .int
  | 17 => .array .int
  | _ => .int
abbrev wsX120 : List Cond := u_ws RX12 TX12 19
theorem nmX12 : ∀ a, a < 19 → ∀ b, b < 19 → a ≠ b → (TX12 a).2.1 ≠ (TX12 b).2.1 := by decide +kernel
theorem tyX12_ok : ∀ k, k < 19 → parseFieldDescriptor (TX12 k).2.2.1 = some (tyX12 k) := by decide +kernel
abbrev cX12_init : ByteArray := prog_14_method_1_code
def yX12_init : MethodName := ⟨RX12, "<init>", "()V"⟩
abbrev cX12_isIn : ByteArray := prog_14_method_2_code
def yX12_isIn : MethodName := ⟨RX12, "isIn", "(III)Z"⟩
abbrev cX12_held : ByteArray := prog_14_method_3_code
def yX12_held : MethodName := ⟨RX12, "held", "(I)I"⟩
abbrev cX12_copies : ByteArray := prog_14_method_4_code
def yX12_copies : MethodName := ⟨RX12, "copies", "([I[I)V"⟩
abbrev cX12_of : ByteArray := prog_14_method_5_code
def yX12_of : MethodName := ⟨RX12, "of", "(II)I"⟩
abbrev cX12_isGuest : ByteArray := prog_14_method_6_code
def yX12_isGuest : MethodName := ⟨RX12, "isGuest", "(I)Z"⟩
abbrev cX12_isHere : ByteArray := prog_14_method_7_code
def yX12_isHere : MethodName := ⟨RX12, "isHere", "([II)Z"⟩
abbrev cX12_has : ByteArray := prog_14_method_8_code
def yX12_has : MethodName := ⟨RX12, "has", "(II)Z"⟩
abbrev cX12_bits : ByteArray := prog_14_method_9_code
def yX12_bits : MethodName := ⟨RX12, "bits", "(I)I"⟩
abbrev cX12_ringsBy : ByteArray := prog_14_method_10_code
def yX12_ringsBy : MethodName := ⟨RX12, "ringsBy", "(II)I"⟩
abbrev cX12_eatsBy : ByteArray := prog_14_method_11_code
def yX12_eatsBy : MethodName := ⟨RX12, "eatsBy", "(II)I"⟩
abbrev cX12_dancesBy : ByteArray := prog_14_method_12_code
def yX12_dancesBy : MethodName := ⟨RX12, "dancesBy", "(III)I"⟩
abbrev cX12_lighterBy : ByteArray := prog_14_method_13_code
def yX12_lighterBy : MethodName := ⟨RX12, "lighterBy", "(II)I"⟩
abbrev cX12_staysBy : ByteArray := prog_14_method_14_code
def yX12_staysBy : MethodName := ⟨RX12, "staysBy", "(II)I"⟩
abbrev cX12_mayGo : ByteArray := prog_14_method_15_code
def yX12_mayGo : MethodName := ⟨RX12, "mayGo", "([II)Z"⟩
abbrev cX12_lacks : ByteArray := prog_14_method_16_code
def yX12_lacks : MethodName := ⟨RX12, "lacks", "([II)I"⟩
abbrev cX12_day : ByteArray := prog_14_method_17_code
def yX12_day : MethodName := ⟨RX12, "day", "([II)V"⟩
abbrev cX12_daysOn : ByteArray := prog_14_method_18_code
def yX12_daysOn : MethodName := ⟨RX12, "daysOn", "([II)V"⟩
abbrev cX12_canTell : ByteArray := prog_14_method_19_code
def yX12_canTell : MethodName := ⟨RX12, "canTell", "([II)Z"⟩
abbrev cX12_tellsIn : ByteArray := prog_14_method_20_code
def yX12_tellsIn : MethodName := ⟨RX12, "tellsIn", "([II)V"⟩
abbrev cX12_canLend : ByteArray := prog_14_method_21_code
def yX12_canLend : MethodName := ⟨RX12, "canLend", "([IIII)Z"⟩
abbrev cX12_lendsIn : ByteArray := prog_14_method_22_code
def yX12_lendsIn : MethodName := ⟨RX12, "lendsIn", "([IIII)V"⟩
abbrev cX12_hereIn : ByteArray := prog_14_method_23_code
def yX12_hereIn : MethodName := ⟨RX12, "hereIn", "([I)I"⟩
abbrev cX12_weightIn : ByteArray := prog_14_method_24_code
def yX12_weightIn : MethodName := ⟨RX12, "weightIn", "([I)I"⟩
abbrev cX12_here : ByteArray := prog_14_method_25_code
def yX12_here : MethodName := ⟨RX12, "here", "()I"⟩
abbrev cX12_readsNumber : ByteArray := prog_14_method_26_code
def yX12_readsNumber : MethodName := ⟨RX12, "readsNumber", "(II)Z"⟩
abbrev cX12_readsStatement : ByteArray := prog_14_method_27_code
def yX12_readsStatement : MethodName := ⟨RX12, "readsStatement", "()Z"⟩
abbrev cX12_adds : ByteArray := prog_14_method_28_code
def yX12_adds : MethodName := ⟨RX12, "adds", "(III)V"⟩
abbrev cX12_isDone : ByteArray := prog_14_method_29_code
def yX12_isDone : MethodName := ⟨RX12, "isDone", "(I)Z"⟩
abbrev cX12_house : ByteArray := prog_14_method_30_code
def yX12_house : MethodName := ⟨RX12, "house", "(I)I"⟩
abbrev cX12_guest : ByteArray := prog_14_method_31_code
def yX12_guest : MethodName := ⟨RX12, "guest", "(II)I"⟩
abbrev cX12_comes : ByteArray := prog_14_method_32_code
def yX12_comes : MethodName := ⟨RX12, "comes", "(II)I"⟩
abbrev cX12_tells : ByteArray := prog_14_method_33_code
def yX12_tells : MethodName := ⟨RX12, "tells", "(I)I"⟩
abbrev cX12_lends : ByteArray := prog_14_method_34_code
def yX12_lends : MethodName := ⟨RX12, "lends", "(III)I"⟩
abbrev cX12_table : ByteArray := prog_14_method_35_code
def yX12_table : MethodName := ⟨RX12, "table", "(II)I"⟩
abbrev cX12_weighs : ByteArray := prog_14_method_36_code
def yX12_weighs : MethodName := ⟨RX12, "weighs", "(II)I"⟩
abbrev cX12_days : ByteArray := prog_14_method_37_code
def yX12_days : MethodName := ⟨RX12, "days", "(I)I"⟩
abbrev cX12_isLate : ByteArray := prog_14_method_38_code
def yX12_isLate : MethodName := ⟨RX12, "isLate", "(I)Z"⟩
abbrev cX12_takes : ByteArray := prog_14_method_39_code
def yX12_takes : MethodName := ⟨RX12, "takes", "(I)V"⟩
abbrev cX12_weightThen : ByteArray := prog_14_method_40_code
def yX12_weightThen : MethodName := ⟨RX12, "weightThen", "(II)I"⟩
abbrev cX12_then : ByteArray := prog_14_method_41_code
def yX12_then : MethodName := ⟨RX12, "then", "(II)I"⟩
abbrev cX12_leavesOf : ByteArray := prog_14_method_42_code
def yX12_leavesOf : MethodName := ⟨RX12, "leavesOf", "(I)I"⟩
abbrev cX12_firstLeaves : ByteArray := prog_14_method_43_code
def yX12_firstLeaves : MethodName := ⟨RX12, "firstLeaves", "()I"⟩
abbrev cX12_leaves : ByteArray := prog_14_method_44_code
def yX12_leaves : MethodName := ⟨RX12, "leaves", "(I)I"⟩
abbrev cX12_lighterThan : ByteArray := prog_14_method_45_code
def yX12_lighterThan : MethodName := ⟨RX12, "lighterThan", "(I)I"⟩
abbrev cX12_order : ByteArray := prog_14_method_46_code
def yX12_order : MethodName := ⟨RX12, "order", "(I)I"⟩
abbrev cX12_feed : ByteArray := prog_14_method_47_code
def yX12_feed : MethodName := ⟨RX12, "feed", "(II)I"⟩
abbrev cX12_empty : ByteArray := prog_14_method_48_code
def yX12_empty : MethodName := ⟨RX12, "empty", "(I)I"⟩
abbrev cX12_hasLeftNext : ByteArray := prog_14_method_49_code
def yX12_hasLeftNext : MethodName := ⟨RX12, "hasLeftNext", "(I)Z"⟩
abbrev cX12_tell : ByteArray := prog_14_method_50_code
def yX12_tell : MethodName := ⟨RX12, "tell", "(I)I"⟩
abbrev cX12_loan : ByteArray := prog_14_method_51_code
def yX12_loan : MethodName := ⟨RX12, "loan", "(II)I"⟩
abbrev cX12_waits : ByteArray := prog_14_method_52_code
def yX12_waits : MethodName := ⟨RX12, "waits", "(I)I"⟩
abbrev cX12_leftBy : ByteArray := prog_14_method_53_code
def yX12_leftBy : MethodName := ⟨RX12, "leftBy", "(III)I"⟩
abbrev cX12_pairOf : ByteArray := prog_14_method_54_code
def yX12_pairOf : MethodName := ⟨RX12, "pairOf", "(II)I"⟩
abbrev cX12_matches : ByteArray := prog_14_method_55_code
def yX12_matches : MethodName := ⟨RX12, "matches", "()V"⟩
abbrev cX12_leastIn : ByteArray := prog_14_method_56_code
def yX12_leastIn : MethodName := ⟨RX12, "leastIn", "(I)I"⟩
abbrev cX12_bestOf : ByteArray := prog_14_method_57_code
def yX12_bestOf : MethodName := ⟨RX12, "bestOf", "(I)I"⟩
abbrev cX12_partnerOf : ByteArray := prog_14_method_58_code
def yX12_partnerOf : MethodName := ⟨RX12, "partnerOf", "(I)I"⟩
abbrev cX12_pairs : ByteArray := prog_14_method_59_code
def yX12_pairs : MethodName := ⟨RX12, "pairs", "(I)I"⟩
abbrev cX12_ledger : ByteArray := prog_14_method_60_code
def yX12_ledger : MethodName := ⟨RX12, "ledger", "()I"⟩
abbrev cX12_sameOnes : ByteArray := prog_14_method_61_code
def yX12_sameOnes : MethodName := ⟨RX12, "sameOnes", "()I"⟩
abbrev cX12_tears : ByteArray := prog_14_method_62_code
def yX12_tears : MethodName := ⟨RX12, "tears", "(I)I"⟩
abbrev cX12_leastOf : ByteArray := prog_14_method_63_code
def yX12_leastOf : MethodName := ⟨RX12, "leastOf", "(I)I"⟩
abbrev cX12_isTold : ByteArray := prog_14_method_64_code
def yX12_isTold : MethodName := ⟨RX12, "isTold", "(III)Z"⟩
abbrev cX12_whatIs : ByteArray := prog_14_method_65_code
def yX12_whatIs : MethodName := ⟨RX12, "whatIs", "(III)I"⟩
abbrev cX12_hasComeSo : ByteArray := prog_14_method_66_code
def yX12_hasComeSo : MethodName := ⟨RX12, "hasComeSo", "(III)Z"⟩
abbrev cX12_cameWith : ByteArray := prog_14_method_67_code
def yX12_cameWith : MethodName := ⟨RX12, "cameWith", "(III)I"⟩
abbrev cX12_hasBy : ByteArray := prog_14_method_68_code
def yX12_hasBy : MethodName := ⟨RX12, "hasBy", "(IIIIII)I"⟩
abbrev cX12_two : ByteArray := prog_14_method_69_code
def yX12_two : MethodName := ⟨RX12, "two", "(III)I"⟩
abbrev cX12_gcd : ByteArray := prog_14_method_70_code
def yX12_gcd : MethodName := ⟨RX12, "gcd", "(JJ)J"⟩
abbrev cX12_partOf : ByteArray := prog_14_method_71_code
def yX12_partOf : MethodName := ⟨RX12, "partOf", "(JJI)J"⟩
abbrev cX12_feasts : ByteArray := prog_14_method_72_code
def yX12_feasts : MethodName := ⟨RX12, "feasts", "(IIII)J"⟩
abbrev cX12_mean : ByteArray := prog_14_method_73_code
def yX12_mean : MethodName := ⟨RX12, "mean", "(I)J"⟩
abbrev cX12_forged : ByteArray := prog_14_method_74_code
def yX12_forged : MethodName := ⟨RX12, "forged", "(I)I"⟩
abbrev cX12_judge : ByteArray := prog_14_method_75_code
def yX12_judge : MethodName := ⟨RX12, "judge", "(I)I"⟩
abbrev cX12_drawn : ByteArray := prog_14_method_76_code
def yX12_drawn : MethodName := ⟨RX12, "drawn", "(I)I"⟩
abbrev cX12_seasons : ByteArray := prog_14_method_77_code
def yX12_seasons : MethodName := ⟨RX12, "seasons", "(III)I"⟩
abbrev cX12_image : ByteArray := prog_14_method_78_code
def yX12_image : MethodName := ⟨RX12, "image", "()I"⟩
abbrev cX12_restore : ByteArray := prog_14_method_79_code
def yX12_restore : MethodName := ⟨RX12, "restore", "()I"⟩
abbrev cX12_count : ByteArray := prog_14_method_80_code
def yX12_count : MethodName := ⟨RX12, "count", "(I)I"⟩
abbrev cX12_thrown : ByteArray := prog_14_method_81_code
def yX12_thrown : MethodName := ⟨RX12, "thrown", "()I"⟩
abbrev cX12_isShelf : ByteArray := prog_14_method_82_code
def yX12_isShelf : MethodName := ⟨RX12, "isShelf", "(I)Z"⟩
abbrev cX12_wrongRow : ByteArray := prog_14_method_83_code
def yX12_wrongRow : MethodName := ⟨RX12, "wrongRow", "(II)I"⟩
abbrev cX12_wrongKept : ByteArray := prog_14_method_84_code
def yX12_wrongKept : MethodName := ⟨RX12, "wrongKept", "(I)I"⟩
abbrev cX12_keep : ByteArray := prog_14_method_85_code
def yX12_keep : MethodName := ⟨RX12, "keep", "(IIII)I"⟩
abbrev cX12_row : ByteArray := prog_14_method_86_code
def yX12_row : MethodName := ⟨RX12, "row", "(III)I"⟩
abbrev cX12_put : ByteArray := prog_14_method_87_code
def yX12_put : MethodName := ⟨RX12, "put", "(III)I"⟩
abbrev cX12_element : ByteArray := prog_14_method_88_code
def yX12_element : MethodName := ⟨RX12, "element", "(II)J"⟩
abbrev cX12_copy : ByteArray := prog_14_method_89_code
def yX12_copy : MethodName := ⟨RX12, "copy", "(IIIII)I"⟩
abbrev cX12_costBy : ByteArray := prog_14_method_90_code
def yX12_costBy : MethodName := ⟨RX12, "costBy", "(II)I"⟩
abbrev cX12_cost : ByteArray := prog_14_method_91_code
def yX12_cost : MethodName := ⟨RX12, "cost", "(I)I"⟩
abbrev cX12_toss : ByteArray := prog_14_method_92_code
def yX12_toss : MethodName := ⟨RX12, "toss", "(I)I"⟩
def RJ6 : String := "java/lang/Integer"
def TJ6 : u_T := fun k => match k with
  | _ => ("", "", "", false)
def tyJ6 : Nat → FieldType := fun k => match k with
  | _ => .int
abbrev cJ6_bitCount_0f7a4 : ByteArray := prog_18_method_49_code
def yJ6_bitCount_0f7a4 : MethodName := ⟨RJ6, "bitCount", "(I)I"⟩
def RJ9 : String := "java/lang/Math"
def TJ9 : u_T := fun k => match k with
  | _ => ("", "", "", false)
def tyJ9 : Nat → FieldType := fun k => match k with
  | _ => .int
abbrev cJ9_max_7cf53 : ByteArray := prog_19_method_65_code
def yJ9_max_7cf53 : MethodName := ⟨RJ9, "max", "(II)I"⟩
abbrev cJ9_min_7cf53 : ByteArray := prog_19_method_69_code
def yJ9_min_7cf53 : MethodName := ⟨RJ9, "min", "(II)I"⟩
def RJ0 : String := "java/lang/String"
def TJ0 : u_T := fun k => match k with
  | _ => ("", "", "", false)
def tyJ0 : Nat → FieldType := fun k => match k with
  | _ => .int
def RJ10 : String := "java/lang/System"
def TJ10 : u_T := fun k => match k with
  | _ => ("", "", "", false)
def tyJ10 : Nat → FieldType := fun k => match k with
  | _ => .int
def RL : String := "GuestWeighsLessLaw"
abbrev cL_element : ByteArray := method_3_code
def yL_element : MethodName := ⟨RL, "element", "(LGuestWeighsLess;II[J)I"⟩
abbrev cL_law : ByteArray := code
def yL_law : MethodName := ⟨RL, "law", "([I)Z"⟩
abbrev vwCl : List vw_C := [(RX0, TX0, 2), (RX1, TX1, 2), (RX2, TX2, 2), (RX3, TX3, 2), (RX4, TX4, 2), (RX5, TX5, 11), (RX6, TX6, 2), (RX7, TX7, 2), (RX8, TX8, 2), (RX9, TX9, 2), (RX10, TX10, 1), (RX11, TX11, 8), (RX12, TX12, 19)]
end
section
theorem dX0_init_0 : decode cX0_init 0 = .ok (.aload_n 0, 1) := by decide +kernel
theorem dX0_init_1 : decode cX0_init 1 = .ok (.iload_n 1, 1) := by decide +kernel
theorem dX0_init_2 : decode cX0_init 2 = .ok (.iload_n 2, 1) := by decide +kernel
theorem dX0_init_3 : decode cX0_init 3 = .ok (.invokespecial 1, 3) := by decide +kernel
theorem dX0_init_6 : decode cX0_init 6 = .ok (.return_, 1) := by decide +kernel
theorem dX0_rings_0 : decode cX0_rings 0 = .ok (.aload_n 0, 1) := by decide +kernel
theorem dX0_rings_1 : decode cX0_rings 1 = .ok (.getfield 7, 3) := by decide +kernel
theorem dX0_rings_4 : decode cX0_rings 4 = .ok (.ireturn, 1) := by decide +kernel
theorem dX0_food_0 : decode cX0_food 0 = .ok (.iload_n 1, 1) := by decide +kernel
theorem dX0_food_1 : decode cX0_food 1 = .ok (.iconst 2, 1) := by decide +kernel
theorem dX0_food_2 : decode cX0_food 2 = .ok (.idiv, 1) := by decide +kernel
theorem dX0_food_3 : decode cX0_food 3 = .ok (.ireturn, 1) := by decide +kernel
theorem dX0_danced_0 : decode cX0_danced 0 = .ok (.iconst 1, 1) := by decide +kernel
theorem dX0_danced_1 : decode cX0_danced 1 = .ok (.ireturn, 1) := by decide +kernel
theorem dX0_lighterBySecret_0 : decode cX0_lighterBySecret 0 = .ok (.aload_n 0, 1) := by decide +kernel
theorem dX0_lighterBySecret_1 : decode cX0_lighterBySecret 1 = .ok (.getfield 7, 3) := by decide +kernel
theorem dX0_lighterBySecret_4 : decode cX0_lighterBySecret 4 = .ok (.iconst 2, 1) := by decide +kernel
theorem dX0_lighterBySecret_5 : decode cX0_lighterBySecret 5 = .ok (.idiv, 1) := by decide +kernel
theorem dX0_lighterBySecret_6 : decode cX0_lighterBySecret 6 = .ok (.ireturn, 1) := by decide +kernel
theorem dX0_price_0 : decode cX0_price 0 = .ok (.aload_n 0, 1) := by decide +kernel
theorem dX0_price_1 : decode cX0_price 1 = .ok (.invokespecial 13, 3) := by decide +kernel
theorem dX0_price_4 : decode cX0_price 4 = .ok (.aload_n 0, 1) := by decide +kernel
theorem dX0_price_5 : decode cX0_price 5 = .ok (.getfield 7, 3) := by decide +kernel
theorem dX0_price_8 : decode cX0_price 8 = .ok (.iadd, 1) := by decide +kernel
theorem dX0_price_9 : decode cX0_price 9 = .ok (.ireturn, 1) := by decide +kernel
theorem dX1_init_0 : decode cX1_init 0 = .ok (.aload_n 0, 1) := by decide +kernel
theorem dX1_init_1 : decode cX1_init 1 = .ok (.iload_n 1, 1) := by decide +kernel
theorem dX1_init_2 : decode cX1_init 2 = .ok (.iload_n 2, 1) := by decide +kernel
theorem dX1_init_3 : decode cX1_init 3 = .ok (.invokespecial 1, 3) := by decide +kernel
theorem dX1_init_6 : decode cX1_init 6 = .ok (.return_, 1) := by decide +kernel
theorem dX1_rings_0 : decode cX1_rings 0 = .ok (.iconst 2, 1) := by decide +kernel
theorem dX1_rings_1 : decode cX1_rings 1 = .ok (.aload_n 0, 1) := by decide +kernel
theorem dX1_rings_2 : decode cX1_rings 2 = .ok (.invokespecial 7, 3) := by decide +kernel
theorem dX1_rings_5 : decode cX1_rings 5 = .ok (.imul, 1) := by decide +kernel
theorem dX1_rings_6 : decode cX1_rings 6 = .ok (.ireturn, 1) := by decide +kernel
theorem dX1_food_0 : decode cX1_food 0 = .ok (.aload_n 0, 1) := by decide +kernel
theorem dX1_food_1 : decode cX1_food 1 = .ok (.iload_n 1, 1) := by decide +kernel
theorem dX1_food_2 : decode cX1_food 2 = .ok (.invokespecial 11, 3) := by decide +kernel
theorem dX1_food_5 : decode cX1_food 5 = .ok (.iconst 2, 1) := by decide +kernel
theorem dX1_food_6 : decode cX1_food 6 = .ok (.iadd, 1) := by decide +kernel
theorem dX1_food_7 : decode cX1_food 7 = .ok (.ireturn, 1) := by decide +kernel
theorem dX1_lighterBySecret_0 : decode cX1_lighterBySecret 0 = .ok (.aload_n 0, 1) := by decide +kernel
theorem dX1_lighterBySecret_1 : decode cX1_lighterBySecret 1 = .ok (.invokespecial 15, 3) := by decide +kernel
theorem dX1_lighterBySecret_4 : decode cX1_lighterBySecret 4 = .ok (.iconst 1, 1) := by decide +kernel
theorem dX1_lighterBySecret_5 : decode cX1_lighterBySecret 5 = .ok (.iadd, 1) := by decide +kernel
theorem dX1_lighterBySecret_6 : decode cX1_lighterBySecret 6 = .ok (.ireturn, 1) := by decide +kernel
theorem dX1_stay_0 : decode cX1_stay 0 = .ok (.bipush 9, 2) := by decide +kernel
theorem dX1_stay_2 : decode cX1_stay 2 = .ok (.ireturn, 1) := by decide +kernel
theorem dX1_price_0 : decode cX1_price 0 = .ok (.iconst 2, 1) := by decide +kernel
theorem dX1_price_1 : decode cX1_price 1 = .ok (.aload_n 0, 1) := by decide +kernel
theorem dX1_price_2 : decode cX1_price 2 = .ok (.invokespecial 18, 3) := by decide +kernel
theorem dX1_price_5 : decode cX1_price 5 = .ok (.imul, 1) := by decide +kernel
theorem dX1_price_6 : decode cX1_price 6 = .ok (.ireturn, 1) := by decide +kernel
theorem dX1_fail_0 : decode cX1_fail 0 = .ok (.aload_n 0, 1) := by decide +kernel
theorem dX1_fail_1 : decode cX1_fail 1 = .ok (.getfield 21, 3) := by decide +kernel
theorem dX1_fail_4 : decode cX1_fail 4 = .ok (.ifCond .eq 13, 3) := by decide +kernel
theorem dX1_fail_7 : decode cX1_fail 7 = .ok (.new 27, 3) := by decide +kernel
theorem dX1_fail_10 : decode cX1_fail 10 = .ok (.dup, 1) := by decide +kernel
theorem dX1_fail_11 : decode cX1_fail 11 = .ok (.ldc 29, 2) := by decide +kernel
theorem dX1_fail_13 : decode cX1_fail 13 = .ok (.invokespecial 31, 3) := by decide +kernel
theorem dX1_fail_16 : decode cX1_fail 16 = .ok (.athrow, 1) := by decide +kernel
theorem dX1_fail_17 : decode cX1_fail 17 = .ok (.return_, 1) := by decide +kernel
theorem dX2_init_0 : decode cX2_init 0 = .ok (.aload_n 0, 1) := by decide +kernel
theorem dX2_init_1 : decode cX2_init 1 = .ok (.iload_n 1, 1) := by decide +kernel
theorem dX2_init_2 : decode cX2_init 2 = .ok (.iload_n 2, 1) := by decide +kernel
theorem dX2_init_3 : decode cX2_init 3 = .ok (.invokespecial 1, 3) := by decide +kernel
theorem dX2_init_6 : decode cX2_init 6 = .ok (.return_, 1) := by decide +kernel
theorem dX2_food_0 : decode cX2_food 0 = .ok (.iload_n 1, 1) := by decide +kernel
theorem dX2_food_1 : decode cX2_food 1 = .ok (.iconst 1, 1) := by decide +kernel
theorem dX2_food_2 : decode cX2_food 2 = .ok (.iadd, 1) := by decide +kernel
theorem dX2_food_3 : decode cX2_food 3 = .ok (.ireturn, 1) := by decide +kernel
theorem dX2_danced_0 : decode cX2_danced 0 = .ok (.iload_n 1, 1) := by decide +kernel
theorem dX2_danced_1 : decode cX2_danced 1 = .ok (.aload_n 0, 1) := by decide +kernel
theorem dX2_danced_2 : decode cX2_danced 2 = .ok (.getfield 7, 3) := by decide +kernel
theorem dX2_danced_5 : decode cX2_danced 5 = .ok (.iconst 3, 1) := by decide +kernel
theorem dX2_danced_6 : decode cX2_danced 6 = .ok (.idiv, 1) := by decide +kernel
theorem dX2_danced_7 : decode cX2_danced 7 = .ok (.iadd, 1) := by decide +kernel
theorem dX2_danced_8 : decode cX2_danced 8 = .ok (.ireturn, 1) := by decide +kernel
theorem dX2_lighterBySecret_0 : decode cX2_lighterBySecret 0 = .ok (.iconst 0, 1) := by decide +kernel
theorem dX2_lighterBySecret_1 : decode cX2_lighterBySecret 1 = .ok (.ireturn, 1) := by decide +kernel
theorem dX2_stay_0 : decode cX2_stay 0 = .ok (.aload_n 0, 1) := by decide +kernel
theorem dX2_stay_1 : decode cX2_stay 1 = .ok (.getfield 7, 3) := by decide +kernel
theorem dX2_stay_4 : decode cX2_stay 4 = .ok (.ireturn, 1) := by decide +kernel
theorem dX2_price_0 : decode cX2_price 0 = .ok (.iconst 1, 1) := by decide +kernel
theorem dX2_price_1 : decode cX2_price 1 = .ok (.ireturn, 1) := by decide +kernel
theorem dX2_fail_0 : decode cX2_fail 0 = .ok (.return_, 1) := by decide +kernel
theorem dX3_init_0 : decode cX3_init 0 = .ok (.aload_n 0, 1) := by decide +kernel
theorem dX3_init_1 : decode cX3_init 1 = .ok (.iload_n 1, 1) := by decide +kernel
theorem dX3_init_2 : decode cX3_init 2 = .ok (.iload_n 2, 1) := by decide +kernel
theorem dX3_init_3 : decode cX3_init 3 = .ok (.invokespecial 1, 3) := by decide +kernel
theorem dX3_init_6 : decode cX3_init 6 = .ok (.return_, 1) := by decide +kernel
theorem dX3_rings_0 : decode cX3_rings 0 = .ok (.aload_n 0, 1) := by decide +kernel
theorem dX3_rings_1 : decode cX3_rings 1 = .ok (.invokespecial 7, 3) := by decide +kernel
theorem dX3_rings_4 : decode cX3_rings 4 = .ok (.iconst 1, 1) := by decide +kernel
theorem dX3_rings_5 : decode cX3_rings 5 = .ok (.iadd, 1) := by decide +kernel
theorem dX3_rings_6 : decode cX3_rings 6 = .ok (.ireturn, 1) := by decide +kernel
theorem dX3_food_0 : decode cX3_food 0 = .ok (.iconst 2, 1) := by decide +kernel
theorem dX3_food_1 : decode cX3_food 1 = .ok (.aload_n 0, 1) := by decide +kernel
theorem dX3_food_2 : decode cX3_food 2 = .ok (.iload_n 1, 1) := by decide +kernel
theorem dX3_food_3 : decode cX3_food 3 = .ok (.invokespecial 11, 3) := by decide +kernel
theorem dX3_food_6 : decode cX3_food 6 = .ok (.imul, 1) := by decide +kernel
theorem dX3_food_7 : decode cX3_food 7 = .ok (.ireturn, 1) := by decide +kernel
theorem dX3_danced_0 : decode cX3_danced 0 = .ok (.iconst 0, 1) := by decide +kernel
theorem dX3_danced_1 : decode cX3_danced 1 = .ok (.aload_n 0, 1) := by decide +kernel
theorem dX3_danced_2 : decode cX3_danced 2 = .ok (.iload_n 1, 1) := by decide +kernel
theorem dX3_danced_3 : decode cX3_danced 3 = .ok (.invokespecial 15, 3) := by decide +kernel
theorem dX3_danced_6 : decode cX3_danced 6 = .ok (.iconst 1, 1) := by decide +kernel
theorem dX3_danced_7 : decode cX3_danced 7 = .ok (.isub, 1) := by decide +kernel
theorem dX3_danced_8 : decode cX3_danced 8 = .ok (.invokestatic 18, 3) := by decide +kernel
theorem dX3_danced_11 : decode cX3_danced 11 = .ok (.ireturn, 1) := by decide +kernel
theorem dX3_lighterBySecret_0 : decode cX3_lighterBySecret 0 = .ok (.iconst 3, 1) := by decide +kernel
theorem dX3_lighterBySecret_1 : decode cX3_lighterBySecret 1 = .ok (.ireturn, 1) := by decide +kernel
theorem dX3_price_0 : decode cX3_price 0 = .ok (.iconst 0, 1) := by decide +kernel
theorem dX3_price_1 : decode cX3_price 1 = .ok (.ireturn, 1) := by decide +kernel
theorem dX4_init_0 : decode cX4_init 0 = .ok (.aload_n 0, 1) := by decide +kernel
theorem dX4_init_1 : decode cX4_init 1 = .ok (.invokespecial 1, 3) := by decide +kernel
theorem dX4_init_4 : decode cX4_init 4 = .ok (.aload_n 0, 1) := by decide +kernel
theorem dX4_init_5 : decode cX4_init 5 = .ok (.iload_n 1, 1) := by decide +kernel
theorem dX4_init_6 : decode cX4_init 6 = .ok (.putfield 7, 3) := by decide +kernel
theorem dX4_init_9 : decode cX4_init 9 = .ok (.aload_n 0, 1) := by decide +kernel
theorem dX4_init_10 : decode cX4_init 10 = .ok (.iload_n 2, 1) := by decide +kernel
theorem dX4_init_11 : decode cX4_init 11 = .ok (.putfield 13, 3) := by decide +kernel
theorem dX4_init_14 : decode cX4_init 14 = .ok (.return_, 1) := by decide +kernel
theorem dX4_rings_0 : decode cX4_rings 0 = .ok (.iconst 0, 1) := by decide +kernel
theorem dX4_rings_1 : decode cX4_rings 1 = .ok (.ireturn, 1) := by decide +kernel
theorem dX4_food_0 : decode cX4_food 0 = .ok (.iload_n 1, 1) := by decide +kernel
theorem dX4_food_1 : decode cX4_food 1 = .ok (.ireturn, 1) := by decide +kernel
theorem dX4_danced_0 : decode cX4_danced 0 = .ok (.iload_n 1, 1) := by decide +kernel
theorem dX4_danced_1 : decode cX4_danced 1 = .ok (.ireturn, 1) := by decide +kernel
theorem dX4_lighterBySecret_0 : decode cX4_lighterBySecret 0 = .ok (.iconst 1, 1) := by decide +kernel
theorem dX4_lighterBySecret_1 : decode cX4_lighterBySecret 1 = .ok (.ireturn, 1) := by decide +kernel
theorem dX4_stay_0 : decode cX4_stay 0 = .ok (.iconst 0, 1) := by decide +kernel
theorem dX4_stay_1 : decode cX4_stay 1 = .ok (.ireturn, 1) := by decide +kernel
theorem dX4_price_0 : decode cX4_price 0 = .ok (.iconst 2, 1) := by decide +kernel
theorem dX4_price_1 : decode cX4_price 1 = .ok (.ireturn, 1) := by decide +kernel
theorem dX4_fail_0 : decode cX4_fail 0 = .ok (.aload_n 0, 1) := by decide +kernel
theorem dX4_fail_1 : decode cX4_fail 1 = .ok (.getfield 13, 3) := by decide +kernel
theorem dX4_fail_4 : decode cX4_fail 4 = .ok (.ifCond .eq 13, 3) := by decide +kernel
theorem dX4_fail_7 : decode cX4_fail 7 = .ok (.new 16, 3) := by decide +kernel
theorem dX4_fail_10 : decode cX4_fail 10 = .ok (.dup, 1) := by decide +kernel
theorem dX4_fail_11 : decode cX4_fail 11 = .ok (.ldc 18, 2) := by decide +kernel
theorem dX4_fail_13 : decode cX4_fail 13 = .ok (.invokespecial 20, 3) := by decide +kernel
theorem dX4_fail_16 : decode cX4_fail 16 = .ok (.athrow, 1) := by decide +kernel
theorem dX4_fail_17 : decode cX4_fail 17 = .ok (.return_, 1) := by decide +kernel
theorem dX5_init_0 : decode cX5_init 0 = .ok (.aload_n 0, 1) := by decide +kernel
theorem dX5_init_1 : decode cX5_init 1 = .ok (.invokespecial 3, 3) := by decide +kernel
theorem dX5_init_4 : decode cX5_init 4 = .ok (.aload_n 0, 1) := by decide +kernel
theorem dX5_init_5 : decode cX5_init 5 = .ok (.bipush 7, 2) := by decide +kernel
theorem dX5_init_7 : decode cX5_init 7 = .ok (.anewarray 9, 3) := by decide +kernel
theorem dX5_init_10 : decode cX5_init 10 = .ok (.putfield 11, 3) := by decide +kernel
theorem dX5_init_13 : decode cX5_init 13 = .ok (.aload_n 0, 1) := by decide +kernel
theorem dX5_init_14 : decode cX5_init 14 = .ok (.bipush 7, 2) := by decide +kernel
theorem dX5_init_16 : decode cX5_init 16 = .ok (.newarray .int, 2) := by decide +kernel
theorem dX5_init_18 : decode cX5_init 18 = .ok (.putfield 17, 3) := by decide +kernel
theorem dX5_init_21 : decode cX5_init 21 = .ok (.aload_n 0, 1) := by decide +kernel
theorem dX5_init_22 : decode cX5_init 22 = .ok (.bipush 7, 2) := by decide +kernel
theorem dX5_init_24 : decode cX5_init 24 = .ok (.newarray .int, 2) := by decide +kernel
theorem dX5_init_26 : decode cX5_init 26 = .ok (.putfield 21, 3) := by decide +kernel
theorem dX5_init_29 : decode cX5_init 29 = .ok (.aload_n 0, 1) := by decide +kernel
theorem dX5_init_30 : decode cX5_init 30 = .ok (.bipush 7, 2) := by decide +kernel
theorem dX5_init_32 : decode cX5_init 32 = .ok (.newarray .int, 2) := by decide +kernel
theorem dX5_init_34 : decode cX5_init 34 = .ok (.putfield 24, 3) := by decide +kernel
theorem dX5_init_37 : decode cX5_init 37 = .ok (.aload_n 0, 1) := by decide +kernel
theorem dX5_init_38 : decode cX5_init 38 = .ok (.bipush 7, 2) := by decide +kernel
theorem dX5_init_40 : decode cX5_init 40 = .ok (.newarray .int, 2) := by decide +kernel
theorem dX5_init_42 : decode cX5_init 42 = .ok (.putfield 27, 3) := by decide +kernel
theorem dX5_init_45 : decode cX5_init 45 = .ok (.aload_n 0, 1) := by decide +kernel
theorem dX5_init_46 : decode cX5_init 46 = .ok (.iconst 0, 1) := by decide +kernel
theorem dX5_init_47 : decode cX5_init 47 = .ok (.putfield 30, 3) := by decide +kernel
theorem dX5_init_50 : decode cX5_init 50 = .ok (.aload_n 0, 1) := by decide +kernel
theorem dX5_init_51 : decode cX5_init 51 = .ok (.iconst 0, 1) := by decide +kernel
theorem dX5_init_52 : decode cX5_init 52 = .ok (.putfield 34, 3) := by decide +kernel
theorem dX5_init_55 : decode cX5_init 55 = .ok (.aload_n 0, 1) := by decide +kernel
theorem dX5_init_56 : decode cX5_init 56 = .ok (.iconst 2, 1) := by decide +kernel
theorem dX5_init_57 : decode cX5_init 57 = .ok (.putfield 37, 3) := by decide +kernel
theorem dX5_init_60 : decode cX5_init 60 = .ok (.aload_n 0, 1) := by decide +kernel
theorem dX5_init_61 : decode cX5_init 61 = .ok (.iconst 3, 1) := by decide +kernel
theorem dX5_init_62 : decode cX5_init 62 = .ok (.putfield 40, 3) := by decide +kernel
theorem dX5_init_65 : decode cX5_init 65 = .ok (.aload_n 0, 1) := by decide +kernel
theorem dX5_init_66 : decode cX5_init 66 = .ok (.iconst 0, 1) := by decide +kernel
theorem dX5_init_67 : decode cX5_init 67 = .ok (.putfield 43, 3) := by decide +kernel
theorem dX5_init_70 : decode cX5_init 70 = .ok (.aload_n 0, 1) := by decide +kernel
theorem dX5_init_71 : decode cX5_init 71 = .ok (.iconst 0, 1) := by decide +kernel
theorem dX5_init_72 : decode cX5_init 72 = .ok (.putfield 46, 3) := by decide +kernel
theorem dX5_init_75 : decode cX5_init 75 = .ok (.new 9, 3) := by decide +kernel
theorem dX5_init_78 : decode cX5_init 78 = .ok (.dup, 1) := by decide +kernel
theorem dX5_init_79 : decode cX5_init 79 = .ok (.iconst 0, 1) := by decide +kernel
theorem dX5_init_80 : decode cX5_init 80 = .ok (.iconst 0, 1) := by decide +kernel
theorem dX5_init_81 : decode cX5_init 81 = .ok (.invokespecial 49, 3) := by decide +kernel
theorem dX5_init_84 : decode cX5_init 84 = .ok (.astore_n 1, 1) := by decide +kernel
theorem dX5_init_85 : decode cX5_init 85 = .ok (.iconst 0, 1) := by decide +kernel
theorem dX5_init_86 : decode cX5_init 86 = .ok (.istore_n 2, 1) := by decide +kernel
theorem dX5_init_87 : decode cX5_init 87 = .ok (.iload_n 2, 1) := by decide +kernel
theorem dX5_init_88 : decode cX5_init 88 = .ok (.bipush 7, 2) := by decide +kernel
theorem dX5_init_90 : decode cX5_init 90 = .ok (.if_icmp .ge 16, 3) := by decide +kernel
theorem dX5_init_93 : decode cX5_init 93 = .ok (.aload_n 0, 1) := by decide +kernel
theorem dX5_init_94 : decode cX5_init 94 = .ok (.getfield 11, 3) := by decide +kernel
theorem dX5_init_97 : decode cX5_init 97 = .ok (.iload_n 2, 1) := by decide +kernel
theorem dX5_init_98 : decode cX5_init 98 = .ok (.aload_n 1, 1) := by decide +kernel
theorem dX5_init_99 : decode cX5_init 99 = .ok (.aastore, 1) := by decide +kernel
theorem dX5_init_100 : decode cX5_init 100 = .ok (.iinc 2 1, 3) := by decide +kernel
theorem dX5_init_103 : decode cX5_init 103 = .ok (.goto (-16), 3) := by decide +kernel
theorem dX5_init_106 : decode cX5_init 106 = .ok (.return_, 1) := by decide +kernel
theorem dX5_becomes_0 : decode cX5_becomes 0 = .ok (.aload_n 0, 1) := by decide +kernel
theorem dX5_becomes_1 : decode cX5_becomes 1 = .ok (.aload_n 1, 1) := by decide +kernel
theorem dX5_becomes_2 : decode cX5_becomes 2 = .ok (.getfield 30, 3) := by decide +kernel
theorem dX5_becomes_5 : decode cX5_becomes 5 = .ok (.putfield 30, 3) := by decide +kernel
theorem dX5_becomes_8 : decode cX5_becomes 8 = .ok (.iconst 0, 1) := by decide +kernel
theorem dX5_becomes_9 : decode cX5_becomes 9 = .ok (.istore_n 2, 1) := by decide +kernel
theorem dX5_becomes_10 : decode cX5_becomes 10 = .ok (.iload_n 2, 1) := by decide +kernel
theorem dX5_becomes_11 : decode cX5_becomes 11 = .ok (.aload_n 0, 1) := by decide +kernel
theorem dX5_becomes_12 : decode cX5_becomes 12 = .ok (.getfield 30, 3) := by decide +kernel
theorem dX5_becomes_15 : decode cX5_becomes 15 = .ok (.if_icmp .ge 69, 3) := by decide +kernel
theorem dX5_becomes_18 : decode cX5_becomes 18 = .ok (.aload_n 0, 1) := by decide +kernel
theorem dX5_becomes_19 : decode cX5_becomes 19 = .ok (.getfield 11, 3) := by decide +kernel
theorem dX5_becomes_22 : decode cX5_becomes 22 = .ok (.iload_n 2, 1) := by decide +kernel
theorem dX5_becomes_23 : decode cX5_becomes 23 = .ok (.aload_n 1, 1) := by decide +kernel
theorem dX5_becomes_24 : decode cX5_becomes 24 = .ok (.getfield 11, 3) := by decide +kernel
theorem dX5_becomes_27 : decode cX5_becomes 27 = .ok (.iload_n 2, 1) := by decide +kernel
theorem dX5_becomes_28 : decode cX5_becomes 28 = .ok (.aaload, 1) := by decide +kernel
theorem dX5_becomes_29 : decode cX5_becomes 29 = .ok (.aastore, 1) := by decide +kernel
theorem dX5_becomes_30 : decode cX5_becomes 30 = .ok (.aload_n 0, 1) := by decide +kernel
theorem dX5_becomes_31 : decode cX5_becomes 31 = .ok (.getfield 17, 3) := by decide +kernel
theorem dX5_becomes_34 : decode cX5_becomes 34 = .ok (.iload_n 2, 1) := by decide +kernel
theorem dX5_becomes_35 : decode cX5_becomes 35 = .ok (.aload_n 1, 1) := by decide +kernel
theorem dX5_becomes_36 : decode cX5_becomes 36 = .ok (.getfield 17, 3) := by decide +kernel
theorem dX5_becomes_39 : decode cX5_becomes 39 = .ok (.iload_n 2, 1) := by decide +kernel
theorem dX5_becomes_40 : decode cX5_becomes 40 = .ok (.iaload, 1) := by decide +kernel
theorem dX5_becomes_41 : decode cX5_becomes 41 = .ok (.iastore, 1) := by decide +kernel
theorem dX5_becomes_42 : decode cX5_becomes 42 = .ok (.aload_n 0, 1) := by decide +kernel
theorem dX5_becomes_43 : decode cX5_becomes 43 = .ok (.getfield 21, 3) := by decide +kernel
theorem dX5_becomes_46 : decode cX5_becomes 46 = .ok (.iload_n 2, 1) := by decide +kernel
theorem dX5_becomes_47 : decode cX5_becomes 47 = .ok (.aload_n 1, 1) := by decide +kernel
theorem dX5_becomes_48 : decode cX5_becomes 48 = .ok (.getfield 21, 3) := by decide +kernel
theorem dX5_becomes_51 : decode cX5_becomes 51 = .ok (.iload_n 2, 1) := by decide +kernel
theorem dX5_becomes_52 : decode cX5_becomes 52 = .ok (.iaload, 1) := by decide +kernel
theorem dX5_becomes_53 : decode cX5_becomes 53 = .ok (.iastore, 1) := by decide +kernel
theorem dX5_becomes_54 : decode cX5_becomes 54 = .ok (.aload_n 0, 1) := by decide +kernel
theorem dX5_becomes_55 : decode cX5_becomes 55 = .ok (.getfield 24, 3) := by decide +kernel
theorem dX5_becomes_58 : decode cX5_becomes 58 = .ok (.iload_n 2, 1) := by decide +kernel
theorem dX5_becomes_59 : decode cX5_becomes 59 = .ok (.aload_n 1, 1) := by decide +kernel
theorem dX5_becomes_60 : decode cX5_becomes 60 = .ok (.getfield 24, 3) := by decide +kernel
theorem dX5_becomes_63 : decode cX5_becomes 63 = .ok (.iload_n 2, 1) := by decide +kernel
theorem dX5_becomes_64 : decode cX5_becomes 64 = .ok (.iaload, 1) := by decide +kernel
theorem dX5_becomes_65 : decode cX5_becomes 65 = .ok (.iastore, 1) := by decide +kernel
theorem dX5_becomes_66 : decode cX5_becomes 66 = .ok (.aload_n 0, 1) := by decide +kernel
theorem dX5_becomes_67 : decode cX5_becomes 67 = .ok (.getfield 27, 3) := by decide +kernel
theorem dX5_becomes_70 : decode cX5_becomes 70 = .ok (.iload_n 2, 1) := by decide +kernel
theorem dX5_becomes_71 : decode cX5_becomes 71 = .ok (.aload_n 1, 1) := by decide +kernel
theorem dX5_becomes_72 : decode cX5_becomes 72 = .ok (.getfield 27, 3) := by decide +kernel
theorem dX5_becomes_75 : decode cX5_becomes 75 = .ok (.iload_n 2, 1) := by decide +kernel
theorem dX5_becomes_76 : decode cX5_becomes 76 = .ok (.iaload, 1) := by decide +kernel
theorem dX5_becomes_77 : decode cX5_becomes 77 = .ok (.iastore, 1) := by decide +kernel
theorem dX5_becomes_78 : decode cX5_becomes 78 = .ok (.iinc 2 1, 3) := by decide +kernel
theorem dX5_becomes_81 : decode cX5_becomes 81 = .ok (.goto (-71), 3) := by decide +kernel
theorem dX5_becomes_84 : decode cX5_becomes 84 = .ok (.aload_n 0, 1) := by decide +kernel
theorem dX5_becomes_85 : decode cX5_becomes 85 = .ok (.aload_n 1, 1) := by decide +kernel
theorem dX5_becomes_86 : decode cX5_becomes 86 = .ok (.getfield 34, 3) := by decide +kernel
theorem dX5_becomes_89 : decode cX5_becomes 89 = .ok (.putfield 34, 3) := by decide +kernel
theorem dX5_becomes_92 : decode cX5_becomes 92 = .ok (.aload_n 0, 1) := by decide +kernel
theorem dX5_becomes_93 : decode cX5_becomes 93 = .ok (.aload_n 1, 1) := by decide +kernel
theorem dX5_becomes_94 : decode cX5_becomes 94 = .ok (.getfield 37, 3) := by decide +kernel
theorem dX5_becomes_97 : decode cX5_becomes 97 = .ok (.putfield 37, 3) := by decide +kernel
theorem dX5_becomes_100 : decode cX5_becomes 100 = .ok (.aload_n 0, 1) := by decide +kernel
theorem dX5_becomes_101 : decode cX5_becomes 101 = .ok (.aload_n 1, 1) := by decide +kernel
theorem dX5_becomes_102 : decode cX5_becomes 102 = .ok (.getfield 40, 3) := by decide +kernel
theorem dX5_becomes_105 : decode cX5_becomes 105 = .ok (.putfield 40, 3) := by decide +kernel
theorem dX5_becomes_108 : decode cX5_becomes 108 = .ok (.aload_n 0, 1) := by decide +kernel
theorem dX5_becomes_109 : decode cX5_becomes 109 = .ok (.aload_n 1, 1) := by decide +kernel
theorem dX5_becomes_110 : decode cX5_becomes 110 = .ok (.getfield 43, 3) := by decide +kernel
theorem dX5_becomes_113 : decode cX5_becomes 113 = .ok (.putfield 43, 3) := by decide +kernel
theorem dX5_becomes_116 : decode cX5_becomes 116 = .ok (.aload_n 0, 1) := by decide +kernel
theorem dX5_becomes_117 : decode cX5_becomes 117 = .ok (.aload_n 1, 1) := by decide +kernel
theorem dX5_becomes_118 : decode cX5_becomes 118 = .ok (.getfield 46, 3) := by decide +kernel
theorem dX5_becomes_121 : decode cX5_becomes 121 = .ok (.putfield 46, 3) := by decide +kernel
theorem dX5_becomes_124 : decode cX5_becomes 124 = .ok (.return_, 1) := by decide +kernel
theorem dX5_knows_0 : decode cX5_knows 0 = .ok (.iload_n 1, 1) := by decide +kernel
theorem dX5_knows_1 : decode cX5_knows 1 = .ok (.ifCond .lt 15, 3) := by decide +kernel
theorem dX5_knows_4 : decode cX5_knows 4 = .ok (.iload_n 1, 1) := by decide +kernel
theorem dX5_knows_5 : decode cX5_knows 5 = .ok (.aload_n 0, 1) := by decide +kernel
theorem dX5_knows_6 : decode cX5_knows 6 = .ok (.getfield 30, 3) := by decide +kernel
theorem dX5_knows_9 : decode cX5_knows 9 = .ok (.if_icmp .ge 7, 3) := by decide +kernel
theorem dX5_knows_12 : decode cX5_knows 12 = .ok (.iconst 1, 1) := by decide +kernel
theorem dX5_knows_13 : decode cX5_knows 13 = .ok (.goto 4, 3) := by decide +kernel
theorem dX5_knows_16 : decode cX5_knows 16 = .ok (.iconst 0, 1) := by decide +kernel
theorem dX5_knows_17 : decode cX5_knows 17 = .ok (.ireturn, 1) := by decide +kernel
theorem dX5_isFull_0 : decode cX5_isFull 0 = .ok (.aload_n 0, 1) := by decide +kernel
theorem dX5_isFull_1 : decode cX5_isFull 1 = .ok (.getfield 30, 3) := by decide +kernel
theorem dX5_isFull_4 : decode cX5_isFull 4 = .ok (.bipush 7, 2) := by decide +kernel
theorem dX5_isFull_6 : decode cX5_isFull 6 = .ok (.if_icmp .lt 7, 3) := by decide +kernel
theorem dX5_isFull_9 : decode cX5_isFull 9 = .ok (.iconst 1, 1) := by decide +kernel
theorem dX5_isFull_10 : decode cX5_isFull 10 = .ok (.goto 4, 3) := by decide +kernel
theorem dX5_isFull_13 : decode cX5_isFull 13 = .ok (.iconst 0, 1) := by decide +kernel
theorem dX5_isFull_14 : decode cX5_isFull 14 = .ok (.ireturn, 1) := by decide +kernel
theorem dX5_isIn_0 : decode cX5_isIn 0 = .ok (.aload_n 0, 1) := by decide +kernel
theorem dX5_isIn_1 : decode cX5_isIn 1 = .ok (.getfield 34, 3) := by decide +kernel
theorem dX5_isIn_4 : decode cX5_isIn 4 = .ok (.iload_n 1, 1) := by decide +kernel
theorem dX5_isIn_5 : decode cX5_isIn 5 = .ok (.ishr, 1) := by decide +kernel
theorem dX5_isIn_6 : decode cX5_isIn 6 = .ok (.iconst 1, 1) := by decide +kernel
theorem dX5_isIn_7 : decode cX5_isIn 7 = .ok (.iand, 1) := by decide +kernel
theorem dX5_isIn_8 : decode cX5_isIn 8 = .ok (.iconst 1, 1) := by decide +kernel
theorem dX5_isIn_9 : decode cX5_isIn 9 = .ok (.if_icmp .ne 7, 3) := by decide +kernel
theorem dX5_isIn_12 : decode cX5_isIn 12 = .ok (.iconst 1, 1) := by decide +kernel
theorem dX5_isIn_13 : decode cX5_isIn 13 = .ok (.goto 4, 3) := by decide +kernel
theorem dX5_isIn_16 : decode cX5_isIn 16 = .ok (.iconst 0, 1) := by decide +kernel
theorem dX5_isIn_17 : decode cX5_isIn 17 = .ok (.ireturn, 1) := by decide +kernel
theorem dX5_takeIn_0 : decode cX5_takeIn 0 = .ok (.aload_n 0, 1) := by decide +kernel
theorem dX5_takeIn_1 : decode cX5_takeIn 1 = .ok (.getfield 11, 3) := by decide +kernel
theorem dX5_takeIn_4 : decode cX5_takeIn 4 = .ok (.aload_n 0, 1) := by decide +kernel
theorem dX5_takeIn_5 : decode cX5_takeIn 5 = .ok (.getfield 30, 3) := by decide +kernel
theorem dX5_takeIn_8 : decode cX5_takeIn 8 = .ok (.aload_n 1, 1) := by decide +kernel
theorem dX5_takeIn_9 : decode cX5_takeIn 9 = .ok (.aastore, 1) := by decide +kernel
theorem dX5_takeIn_10 : decode cX5_takeIn 10 = .ok (.aload_n 0, 1) := by decide +kernel
theorem dX5_takeIn_11 : decode cX5_takeIn 11 = .ok (.getfield 17, 3) := by decide +kernel
theorem dX5_takeIn_14 : decode cX5_takeIn 14 = .ok (.aload_n 0, 1) := by decide +kernel
theorem dX5_takeIn_15 : decode cX5_takeIn 15 = .ok (.getfield 30, 3) := by decide +kernel
theorem dX5_takeIn_18 : decode cX5_takeIn 18 = .ok (.iload_n 2, 1) := by decide +kernel
theorem dX5_takeIn_19 : decode cX5_takeIn 19 = .ok (.iastore, 1) := by decide +kernel
theorem dX5_takeIn_20 : decode cX5_takeIn 20 = .ok (.aload_n 0, 1) := by decide +kernel
theorem dX5_takeIn_21 : decode cX5_takeIn 21 = .ok (.getfield 21, 3) := by decide +kernel
theorem dX5_takeIn_24 : decode cX5_takeIn 24 = .ok (.aload_n 0, 1) := by decide +kernel
theorem dX5_takeIn_25 : decode cX5_takeIn 25 = .ok (.getfield 30, 3) := by decide +kernel
theorem dX5_takeIn_28 : decode cX5_takeIn 28 = .ok (.iload_n 2, 1) := by decide +kernel
theorem dX5_takeIn_29 : decode cX5_takeIn 29 = .ok (.aload_n 1, 1) := by decide +kernel
theorem dX5_takeIn_30 : decode cX5_takeIn 30 = .ok (.invokevirtual 52, 3) := by decide +kernel
theorem dX5_takeIn_33 : decode cX5_takeIn 33 = .ok (.iadd, 1) := by decide +kernel
theorem dX5_takeIn_34 : decode cX5_takeIn 34 = .ok (.iastore, 1) := by decide +kernel
theorem dX5_takeIn_35 : decode cX5_takeIn 35 = .ok (.aload_n 0, 1) := by decide +kernel
theorem dX5_takeIn_36 : decode cX5_takeIn 36 = .ok (.getfield 24, 3) := by decide +kernel
theorem dX5_takeIn_39 : decode cX5_takeIn 39 = .ok (.aload_n 0, 1) := by decide +kernel
theorem dX5_takeIn_40 : decode cX5_takeIn 40 = .ok (.getfield 30, 3) := by decide +kernel
theorem dX5_takeIn_43 : decode cX5_takeIn 43 = .ok (.iconst 3, 1) := by decide +kernel
theorem dX5_takeIn_44 : decode cX5_takeIn 44 = .ok (.iastore, 1) := by decide +kernel
theorem dX5_takeIn_45 : decode cX5_takeIn 45 = .ok (.aload_n 0, 1) := by decide +kernel
theorem dX5_takeIn_46 : decode cX5_takeIn 46 = .ok (.getfield 27, 3) := by decide +kernel
theorem dX5_takeIn_49 : decode cX5_takeIn 49 = .ok (.aload_n 0, 1) := by decide +kernel
theorem dX5_takeIn_50 : decode cX5_takeIn 50 = .ok (.getfield 30, 3) := by decide +kernel
theorem dX5_takeIn_53 : decode cX5_takeIn 53 = .ok (.aload_n 0, 1) := by decide +kernel
theorem dX5_takeIn_54 : decode cX5_takeIn 54 = .ok (.getfield 46, 3) := by decide +kernel
theorem dX5_takeIn_57 : decode cX5_takeIn 57 = .ok (.iastore, 1) := by decide +kernel
theorem dX5_takeIn_58 : decode cX5_takeIn 58 = .ok (.aload_n 0, 1) := by decide +kernel
theorem dX5_takeIn_59 : decode cX5_takeIn 59 = .ok (.dup, 1) := by decide +kernel
theorem dX5_takeIn_60 : decode cX5_takeIn 60 = .ok (.getfield 34, 3) := by decide +kernel
theorem dX5_takeIn_63 : decode cX5_takeIn 63 = .ok (.iconst 1, 1) := by decide +kernel
theorem dX5_takeIn_64 : decode cX5_takeIn 64 = .ok (.aload_n 0, 1) := by decide +kernel
theorem dX5_takeIn_65 : decode cX5_takeIn 65 = .ok (.getfield 30, 3) := by decide +kernel
theorem dX5_takeIn_68 : decode cX5_takeIn 68 = .ok (.ishl, 1) := by decide +kernel
theorem dX5_takeIn_69 : decode cX5_takeIn 69 = .ok (.ior, 1) := by decide +kernel
theorem dX5_takeIn_70 : decode cX5_takeIn 70 = .ok (.putfield 34, 3) := by decide +kernel
theorem dX5_takeIn_73 : decode cX5_takeIn 73 = .ok (.aload_n 0, 1) := by decide +kernel
theorem dX5_takeIn_74 : decode cX5_takeIn 74 = .ok (.dup, 1) := by decide +kernel
theorem dX5_takeIn_75 : decode cX5_takeIn 75 = .ok (.getfield 30, 3) := by decide +kernel
theorem dX5_takeIn_78 : decode cX5_takeIn 78 = .ok (.iconst 1, 1) := by decide +kernel
theorem dX5_takeIn_79 : decode cX5_takeIn 79 = .ok (.iadd, 1) := by decide +kernel
theorem dX5_takeIn_80 : decode cX5_takeIn 80 = .ok (.putfield 30, 3) := by decide +kernel
theorem dX5_takeIn_83 : decode cX5_takeIn 83 = .ok (.return_, 1) := by decide +kernel
theorem dX5_hasStayed_0 : decode cX5_hasStayed 0 = .ok (.aload_n 0, 1) := by decide +kernel
theorem dX5_hasStayed_1 : decode cX5_hasStayed 1 = .ok (.getfield 46, 3) := by decide +kernel
theorem dX5_hasStayed_4 : decode cX5_hasStayed 4 = .ok (.aload_n 0, 1) := by decide +kernel
theorem dX5_hasStayed_5 : decode cX5_hasStayed 5 = .ok (.getfield 27, 3) := by decide +kernel
theorem dX5_hasStayed_8 : decode cX5_hasStayed 8 = .ok (.iload_n 1, 1) := by decide +kernel
theorem dX5_hasStayed_9 : decode cX5_hasStayed 9 = .ok (.iaload, 1) := by decide +kernel
theorem dX5_hasStayed_10 : decode cX5_hasStayed 10 = .ok (.isub, 1) := by decide +kernel
theorem dX5_hasStayed_11 : decode cX5_hasStayed 11 = .ok (.aload_n 0, 1) := by decide +kernel
theorem dX5_hasStayed_12 : decode cX5_hasStayed 12 = .ok (.getfield 11, 3) := by decide +kernel
theorem dX5_hasStayed_15 : decode cX5_hasStayed 15 = .ok (.iload_n 1, 1) := by decide +kernel
theorem dX5_hasStayed_16 : decode cX5_hasStayed 16 = .ok (.aaload, 1) := by decide +kernel
theorem dX5_hasStayed_17 : decode cX5_hasStayed 17 = .ok (.invokevirtual 56, 3) := by decide +kernel
theorem dX5_hasStayed_20 : decode cX5_hasStayed 20 = .ok (.if_icmp .lt 7, 3) := by decide +kernel
theorem dX5_hasStayed_23 : decode cX5_hasStayed 23 = .ok (.iconst 1, 1) := by decide +kernel
theorem dX5_hasStayed_24 : decode cX5_hasStayed 24 = .ok (.goto 4, 3) := by decide +kernel
theorem dX5_hasStayed_27 : decode cX5_hasStayed 27 = .ok (.iconst 0, 1) := by decide +kernel
theorem dX5_hasStayed_28 : decode cX5_hasStayed 28 = .ok (.ireturn, 1) := by decide +kernel
theorem dX5_mayGo_0 : decode cX5_mayGo 0 = .ok (.aload_n 0, 1) := by decide +kernel
theorem dX5_mayGo_1 : decode cX5_mayGo 1 = .ok (.iload_n 1, 1) := by decide +kernel
theorem dX5_mayGo_2 : decode cX5_mayGo 2 = .ok (.invokevirtual 59, 3) := by decide +kernel
theorem dX5_mayGo_5 : decode cX5_mayGo 5 = .ok (.ifCond .eq 30, 3) := by decide +kernel
theorem dX5_mayGo_8 : decode cX5_mayGo 8 = .ok (.aload_n 0, 1) := by decide +kernel
theorem dX5_mayGo_9 : decode cX5_mayGo 9 = .ok (.getfield 17, 3) := by decide +kernel
theorem dX5_mayGo_12 : decode cX5_mayGo 12 = .ok (.iload_n 1, 1) := by decide +kernel
theorem dX5_mayGo_13 : decode cX5_mayGo 13 = .ok (.iaload, 1) := by decide +kernel
theorem dX5_mayGo_14 : decode cX5_mayGo 14 = .ok (.aload_n 0, 1) := by decide +kernel
theorem dX5_mayGo_15 : decode cX5_mayGo 15 = .ok (.getfield 21, 3) := by decide +kernel
theorem dX5_mayGo_18 : decode cX5_mayGo 18 = .ok (.iload_n 1, 1) := by decide +kernel
theorem dX5_mayGo_19 : decode cX5_mayGo 19 = .ok (.iaload, 1) := by decide +kernel
theorem dX5_mayGo_20 : decode cX5_mayGo 20 = .ok (.if_icmp .ge 15, 3) := by decide +kernel
theorem dX5_mayGo_23 : decode cX5_mayGo 23 = .ok (.aload_n 0, 1) := by decide +kernel
theorem dX5_mayGo_24 : decode cX5_mayGo 24 = .ok (.iload_n 1, 1) := by decide +kernel
theorem dX5_mayGo_25 : decode cX5_mayGo 25 = .ok (.invokevirtual 63, 3) := by decide +kernel
theorem dX5_mayGo_28 : decode cX5_mayGo 28 = .ok (.ifCond .eq 7, 3) := by decide +kernel
theorem dX5_mayGo_31 : decode cX5_mayGo 31 = .ok (.iconst 1, 1) := by decide +kernel
theorem dX5_mayGo_32 : decode cX5_mayGo 32 = .ok (.goto 4, 3) := by decide +kernel
theorem dX5_mayGo_35 : decode cX5_mayGo 35 = .ok (.iconst 0, 1) := by decide +kernel
theorem dX5_mayGo_36 : decode cX5_mayGo 36 = .ok (.ireturn, 1) := by decide +kernel
theorem dX5_lacks_0 : decode cX5_lacks 0 = .ok (.aload_n 0, 1) := by decide +kernel
theorem dX5_lacks_1 : decode cX5_lacks 1 = .ok (.iload_n 1, 1) := by decide +kernel
theorem dX5_lacks_2 : decode cX5_lacks 2 = .ok (.invokevirtual 59, 3) := by decide +kernel
theorem dX5_lacks_5 : decode cX5_lacks 5 = .ok (.ifCond .eq 25, 3) := by decide +kernel
theorem dX5_lacks_8 : decode cX5_lacks 8 = .ok (.iconst 0, 1) := by decide +kernel
theorem dX5_lacks_9 : decode cX5_lacks 9 = .ok (.aload_n 0, 1) := by decide +kernel
theorem dX5_lacks_10 : decode cX5_lacks 10 = .ok (.getfield 17, 3) := by decide +kernel
theorem dX5_lacks_13 : decode cX5_lacks 13 = .ok (.iload_n 1, 1) := by decide +kernel
theorem dX5_lacks_14 : decode cX5_lacks 14 = .ok (.iaload, 1) := by decide +kernel
theorem dX5_lacks_15 : decode cX5_lacks 15 = .ok (.aload_n 0, 1) := by decide +kernel
theorem dX5_lacks_16 : decode cX5_lacks 16 = .ok (.getfield 21, 3) := by decide +kernel
theorem dX5_lacks_19 : decode cX5_lacks 19 = .ok (.iload_n 1, 1) := by decide +kernel
theorem dX5_lacks_20 : decode cX5_lacks 20 = .ok (.iaload, 1) := by decide +kernel
theorem dX5_lacks_21 : decode cX5_lacks 21 = .ok (.isub, 1) := by decide +kernel
theorem dX5_lacks_22 : decode cX5_lacks 22 = .ok (.iconst 1, 1) := by decide +kernel
theorem dX5_lacks_23 : decode cX5_lacks 23 = .ok (.iadd, 1) := by decide +kernel
theorem dX5_lacks_24 : decode cX5_lacks 24 = .ok (.invokestatic 66, 3) := by decide +kernel
theorem dX5_lacks_27 : decode cX5_lacks 27 = .ok (.goto 4, 3) := by decide +kernel
theorem dX5_lacks_30 : decode cX5_lacks 30 = .ok (.iconst 0, 1) := by decide +kernel
theorem dX5_lacks_31 : decode cX5_lacks 31 = .ok (.ireturn, 1) := by decide +kernel
theorem dX5_canTell_0 : decode cX5_canTell 0 = .ok (.aload_n 0, 1) := by decide +kernel
theorem dX5_canTell_1 : decode cX5_canTell 1 = .ok (.iload_n 1, 1) := by decide +kernel
theorem dX5_canTell_2 : decode cX5_canTell 2 = .ok (.invokevirtual 59, 3) := by decide +kernel
theorem dX5_canTell_5 : decode cX5_canTell 5 = .ok (.ifCond .eq 16, 3) := by decide +kernel
theorem dX5_canTell_8 : decode cX5_canTell 8 = .ok (.aload_n 0, 1) := by decide +kernel
theorem dX5_canTell_9 : decode cX5_canTell 9 = .ok (.getfield 24, 3) := by decide +kernel
theorem dX5_canTell_12 : decode cX5_canTell 12 = .ok (.iload_n 1, 1) := by decide +kernel
theorem dX5_canTell_13 : decode cX5_canTell 13 = .ok (.iaload, 1) := by decide +kernel
theorem dX5_canTell_14 : decode cX5_canTell 14 = .ok (.ifCond .le 7, 3) := by decide +kernel
theorem dX5_canTell_17 : decode cX5_canTell 17 = .ok (.iconst 1, 1) := by decide +kernel
theorem dX5_canTell_18 : decode cX5_canTell 18 = .ok (.goto 4, 3) := by decide +kernel
theorem dX5_canTell_21 : decode cX5_canTell 21 = .ok (.iconst 0, 1) := by decide +kernel
theorem dX5_canTell_22 : decode cX5_canTell 22 = .ok (.ireturn, 1) := by decide +kernel
theorem dX5_tellSecret_0 : decode cX5_tellSecret 0 = .ok (.aload_n 0, 1) := by decide +kernel
theorem dX5_tellSecret_1 : decode cX5_tellSecret 1 = .ok (.getfield 24, 3) := by decide +kernel
theorem dX5_tellSecret_4 : decode cX5_tellSecret 4 = .ok (.iload_n 1, 1) := by decide +kernel
theorem dX5_tellSecret_5 : decode cX5_tellSecret 5 = .ok (.dup2, 1) := by decide +kernel
theorem dX5_tellSecret_6 : decode cX5_tellSecret 6 = .ok (.iaload, 1) := by decide +kernel
theorem dX5_tellSecret_7 : decode cX5_tellSecret 7 = .ok (.iconst 1, 1) := by decide +kernel
theorem dX5_tellSecret_8 : decode cX5_tellSecret 8 = .ok (.isub, 1) := by decide +kernel
theorem dX5_tellSecret_9 : decode cX5_tellSecret 9 = .ok (.iastore, 1) := by decide +kernel
theorem dX5_tellSecret_10 : decode cX5_tellSecret 10 = .ok (.aload_n 0, 1) := by decide +kernel
theorem dX5_tellSecret_11 : decode cX5_tellSecret 11 = .ok (.getfield 17, 3) := by decide +kernel
theorem dX5_tellSecret_14 : decode cX5_tellSecret 14 = .ok (.iload_n 1, 1) := by decide +kernel
theorem dX5_tellSecret_15 : decode cX5_tellSecret 15 = .ok (.iconst 0, 1) := by decide +kernel
theorem dX5_tellSecret_16 : decode cX5_tellSecret 16 = .ok (.aload_n 0, 1) := by decide +kernel
theorem dX5_tellSecret_17 : decode cX5_tellSecret 17 = .ok (.getfield 17, 3) := by decide +kernel
theorem dX5_tellSecret_20 : decode cX5_tellSecret 20 = .ok (.iload_n 1, 1) := by decide +kernel
theorem dX5_tellSecret_21 : decode cX5_tellSecret 21 = .ok (.iaload, 1) := by decide +kernel
theorem dX5_tellSecret_22 : decode cX5_tellSecret 22 = .ok (.aload_n 0, 1) := by decide +kernel
theorem dX5_tellSecret_23 : decode cX5_tellSecret 23 = .ok (.getfield 11, 3) := by decide +kernel
theorem dX5_tellSecret_26 : decode cX5_tellSecret 26 = .ok (.iload_n 1, 1) := by decide +kernel
theorem dX5_tellSecret_27 : decode cX5_tellSecret 27 = .ok (.aaload, 1) := by decide +kernel
theorem dX5_tellSecret_28 : decode cX5_tellSecret 28 = .ok (.invokevirtual 72, 3) := by decide +kernel
theorem dX5_tellSecret_31 : decode cX5_tellSecret 31 = .ok (.isub, 1) := by decide +kernel
theorem dX5_tellSecret_32 : decode cX5_tellSecret 32 = .ok (.invokestatic 66, 3) := by decide +kernel
theorem dX5_tellSecret_35 : decode cX5_tellSecret 35 = .ok (.iastore, 1) := by decide +kernel
theorem dX5_tellSecret_36 : decode cX5_tellSecret 36 = .ok (.return_, 1) := by decide +kernel
theorem dX5_canLend_0 : decode cX5_canLend 0 = .ok (.aload_n 0, 1) := by decide +kernel
theorem dX5_canLend_1 : decode cX5_canLend 1 = .ok (.iload_n 1, 1) := by decide +kernel
theorem dX5_canLend_2 : decode cX5_canLend 2 = .ok (.invokevirtual 59, 3) := by decide +kernel
theorem dX5_canLend_5 : decode cX5_canLend 5 = .ok (.ifCond .eq 38, 3) := by decide +kernel
theorem dX5_canLend_8 : decode cX5_canLend 8 = .ok (.aload_n 0, 1) := by decide +kernel
theorem dX5_canLend_9 : decode cX5_canLend 9 = .ok (.iload_n 2, 1) := by decide +kernel
theorem dX5_canLend_10 : decode cX5_canLend 10 = .ok (.invokevirtual 59, 3) := by decide +kernel
theorem dX5_canLend_13 : decode cX5_canLend 13 = .ok (.ifCond .eq 30, 3) := by decide +kernel
theorem dX5_canLend_16 : decode cX5_canLend 16 = .ok (.aload_n 0, 1) := by decide +kernel
theorem dX5_canLend_17 : decode cX5_canLend 17 = .ok (.getfield 17, 3) := by decide +kernel
theorem dX5_canLend_20 : decode cX5_canLend 20 = .ok (.iload_n 1, 1) := by decide +kernel
theorem dX5_canLend_21 : decode cX5_canLend 21 = .ok (.iaload, 1) := by decide +kernel
theorem dX5_canLend_22 : decode cX5_canLend 22 = .ok (.iload_n 3, 1) := by decide +kernel
theorem dX5_canLend_23 : decode cX5_canLend 23 = .ok (.if_icmp .lt 20, 3) := by decide +kernel
theorem dX5_canLend_26 : decode cX5_canLend 26 = .ok (.aload_n 0, 1) := by decide +kernel
theorem dX5_canLend_27 : decode cX5_canLend 27 = .ok (.getfield 17, 3) := by decide +kernel
theorem dX5_canLend_30 : decode cX5_canLend 30 = .ok (.iload_n 2, 1) := by decide +kernel
theorem dX5_canLend_31 : decode cX5_canLend 31 = .ok (.iaload, 1) := by decide +kernel
theorem dX5_canLend_32 : decode cX5_canLend 32 = .ok (.iload_n 3, 1) := by decide +kernel
theorem dX5_canLend_33 : decode cX5_canLend 33 = .ok (.iadd, 1) := by decide +kernel
theorem dX5_canLend_34 : decode cX5_canLend 34 = .ok (.bipush 99, 2) := by decide +kernel
theorem dX5_canLend_36 : decode cX5_canLend 36 = .ok (.if_icmp .gt 7, 3) := by decide +kernel
theorem dX5_canLend_39 : decode cX5_canLend 39 = .ok (.iconst 1, 1) := by decide +kernel
theorem dX5_canLend_40 : decode cX5_canLend 40 = .ok (.goto 4, 3) := by decide +kernel
theorem dX5_canLend_43 : decode cX5_canLend 43 = .ok (.iconst 0, 1) := by decide +kernel
theorem dX5_canLend_44 : decode cX5_canLend 44 = .ok (.ireturn, 1) := by decide +kernel
theorem dX5_lendPounds_0 : decode cX5_lendPounds 0 = .ok (.aload_n 0, 1) := by decide +kernel
theorem dX5_lendPounds_1 : decode cX5_lendPounds 1 = .ok (.getfield 17, 3) := by decide +kernel
theorem dX5_lendPounds_4 : decode cX5_lendPounds 4 = .ok (.iload_n 1, 1) := by decide +kernel
theorem dX5_lendPounds_5 : decode cX5_lendPounds 5 = .ok (.dup2, 1) := by decide +kernel
theorem dX5_lendPounds_6 : decode cX5_lendPounds 6 = .ok (.iaload, 1) := by decide +kernel
theorem dX5_lendPounds_7 : decode cX5_lendPounds 7 = .ok (.iload_n 3, 1) := by decide +kernel
theorem dX5_lendPounds_8 : decode cX5_lendPounds 8 = .ok (.isub, 1) := by decide +kernel
theorem dX5_lendPounds_9 : decode cX5_lendPounds 9 = .ok (.iastore, 1) := by decide +kernel
theorem dX5_lendPounds_10 : decode cX5_lendPounds 10 = .ok (.aload_n 0, 1) := by decide +kernel
theorem dX5_lendPounds_11 : decode cX5_lendPounds 11 = .ok (.getfield 17, 3) := by decide +kernel
theorem dX5_lendPounds_14 : decode cX5_lendPounds 14 = .ok (.iload_n 2, 1) := by decide +kernel
theorem dX5_lendPounds_15 : decode cX5_lendPounds 15 = .ok (.dup2, 1) := by decide +kernel
theorem dX5_lendPounds_16 : decode cX5_lendPounds 16 = .ok (.iaload, 1) := by decide +kernel
theorem dX5_lendPounds_17 : decode cX5_lendPounds 17 = .ok (.iload_n 3, 1) := by decide +kernel
theorem dX5_lendPounds_18 : decode cX5_lendPounds 18 = .ok (.iadd, 1) := by decide +kernel
theorem dX5_lendPounds_19 : decode cX5_lendPounds 19 = .ok (.iastore, 1) := by decide +kernel
theorem dX5_lendPounds_20 : decode cX5_lendPounds 20 = .ok (.return_, 1) := by decide +kernel
theorem dX5_foodOf_0 : decode cX5_foodOf 0 = .ok (.aload_n 0, 1) := by decide +kernel
theorem dX5_foodOf_1 : decode cX5_foodOf 1 = .ok (.getfield 11, 3) := by decide +kernel
theorem dX5_foodOf_4 : decode cX5_foodOf 4 = .ok (.iload_n 1, 1) := by decide +kernel
theorem dX5_foodOf_5 : decode cX5_foodOf 5 = .ok (.aaload, 1) := by decide +kernel
theorem dX5_foodOf_6 : decode cX5_foodOf 6 = .ok (.aload_n 0, 1) := by decide +kernel
theorem dX5_foodOf_7 : decode cX5_foodOf 7 = .ok (.getfield 37, 3) := by decide +kernel
theorem dX5_foodOf_10 : decode cX5_foodOf 10 = .ok (.invokevirtual 75, 3) := by decide +kernel
theorem dX5_foodOf_13 : decode cX5_foodOf 13 = .ok (.ireturn, 1) := by decide +kernel
theorem dX5_passDays_0 : decode cX5_passDays 0 = .ok (.iconst 0, 1) := by decide +kernel
theorem dX5_passDays_1 : decode cX5_passDays 1 = .ok (.istore_n 2, 1) := by decide +kernel
theorem dX5_passDays_2 : decode cX5_passDays 2 = .ok (.iload_n 2, 1) := by decide +kernel
theorem dX5_passDays_3 : decode cX5_passDays 3 = .ok (.iload_n 1, 1) := by decide +kernel
theorem dX5_passDays_4 : decode cX5_passDays 4 = .ok (.if_icmp .ge 13, 3) := by decide +kernel
theorem dX5_passDays_7 : decode cX5_passDays 7 = .ok (.aload_n 0, 1) := by decide +kernel
theorem dX5_passDays_8 : decode cX5_passDays 8 = .ok (.invokevirtual 79, 3) := by decide +kernel
theorem dX5_passDays_11 : decode cX5_passDays 11 = .ok (.iinc 2 1, 3) := by decide +kernel
theorem dX5_passDays_14 : decode cX5_passDays 14 = .ok (.goto (-12), 3) := by decide +kernel
theorem dX5_passDays_17 : decode cX5_passDays 17 = .ok (.return_, 1) := by decide +kernel
theorem dX5_passDay_0 : decode cX5_passDay 0 = .ok (.aload_n 0, 1) := by decide +kernel
theorem dX5_passDay_1 : decode cX5_passDay 1 = .ok (.dup, 1) := by decide +kernel
theorem dX5_passDay_2 : decode cX5_passDay 2 = .ok (.getfield 46, 3) := by decide +kernel
theorem dX5_passDay_5 : decode cX5_passDay 5 = .ok (.iconst 1, 1) := by decide +kernel
theorem dX5_passDay_6 : decode cX5_passDay 6 = .ok (.iadd, 1) := by decide +kernel
theorem dX5_passDay_7 : decode cX5_passDay 7 = .ok (.putfield 46, 3) := by decide +kernel
theorem dX5_passDay_10 : decode cX5_passDay 10 = .ok (.iconst 0, 1) := by decide +kernel
theorem dX5_passDay_11 : decode cX5_passDay 11 = .ok (.istore_n 1, 1) := by decide +kernel
theorem dX5_passDay_12 : decode cX5_passDay 12 = .ok (.iload_n 1, 1) := by decide +kernel
theorem dX5_passDay_13 : decode cX5_passDay 13 = .ok (.aload_n 0, 1) := by decide +kernel
theorem dX5_passDay_14 : decode cX5_passDay 14 = .ok (.getfield 30, 3) := by decide +kernel
theorem dX5_passDay_17 : decode cX5_passDay 17 = .ok (.if_icmp .ge 19, 3) := by decide +kernel
theorem dX5_passDay_20 : decode cX5_passDay 20 = .ok (.aload_n 0, 1) := by decide +kernel
theorem dX5_passDay_21 : decode cX5_passDay 21 = .ok (.iload_n 1, 1) := by decide +kernel
theorem dX5_passDay_22 : decode cX5_passDay 22 = .ok (.aload_n 0, 1) := by decide +kernel
theorem dX5_passDay_23 : decode cX5_passDay 23 = .ok (.iload_n 1, 1) := by decide +kernel
theorem dX5_passDay_24 : decode cX5_passDay 24 = .ok (.invokevirtual 82, 3) := by decide +kernel
theorem dX5_passDay_27 : decode cX5_passDay 27 = .ok (.invokevirtual 85, 3) := by decide +kernel
theorem dX5_passDay_30 : decode cX5_passDay 30 = .ok (.iinc 1 1, 3) := by decide +kernel
theorem dX5_passDay_33 : decode cX5_passDay 33 = .ok (.goto (-21), 3) := by decide +kernel
theorem dX5_passDay_36 : decode cX5_passDay 36 = .ok (.iconst 0, 1) := by decide +kernel
theorem dX5_passDay_37 : decode cX5_passDay 37 = .ok (.istore_n 1, 1) := by decide +kernel
theorem dX5_passDay_38 : decode cX5_passDay 38 = .ok (.iload_n 1, 1) := by decide +kernel
theorem dX5_passDay_39 : decode cX5_passDay 39 = .ok (.aload_n 0, 1) := by decide +kernel
theorem dX5_passDay_40 : decode cX5_passDay 40 = .ok (.getfield 30, 3) := by decide +kernel
theorem dX5_passDay_43 : decode cX5_passDay 43 = .ok (.if_icmp .ge 22, 3) := by decide +kernel
theorem dX5_passDay_46 : decode cX5_passDay 46 = .ok (.aload_n 0, 1) := by decide +kernel
theorem dX5_passDay_47 : decode cX5_passDay 47 = .ok (.iload_n 1, 1) := by decide +kernel
theorem dX5_passDay_48 : decode cX5_passDay 48 = .ok (.invokevirtual 88, 3) := by decide +kernel
theorem dX5_passDay_51 : decode cX5_passDay 51 = .ok (.ifCond .eq 8, 3) := by decide +kernel
theorem dX5_passDay_54 : decode cX5_passDay 54 = .ok (.aload_n 0, 1) := by decide +kernel
theorem dX5_passDay_55 : decode cX5_passDay 55 = .ok (.iload_n 1, 1) := by decide +kernel
theorem dX5_passDay_56 : decode cX5_passDay 56 = .ok (.invokevirtual 91, 3) := by decide +kernel
theorem dX5_passDay_59 : decode cX5_passDay 59 = .ok (.iinc 1 1, 3) := by decide +kernel
theorem dX5_passDay_62 : decode cX5_passDay 62 = .ok (.goto (-24), 3) := by decide +kernel
theorem dX5_passDay_65 : decode cX5_passDay 65 = .ok (.return_, 1) := by decide +kernel
theorem dX5_passDayOf_0 : decode cX5_passDayOf 0 = .ok (.aload_n 0, 1) := by decide +kernel
theorem dX5_passDayOf_1 : decode cX5_passDayOf 1 = .ok (.iload_n 1, 1) := by decide +kernel
theorem dX5_passDayOf_2 : decode cX5_passDayOf 2 = .ok (.aload_n 0, 1) := by decide +kernel
theorem dX5_passDayOf_3 : decode cX5_passDayOf 3 = .ok (.iload_n 1, 1) := by decide +kernel
theorem dX5_passDayOf_4 : decode cX5_passDayOf 4 = .ok (.invokevirtual 82, 3) := by decide +kernel
theorem dX5_passDayOf_7 : decode cX5_passDayOf 7 = .ok (.invokevirtual 95, 3) := by decide +kernel
theorem dX5_passDayOf_10 : decode cX5_passDayOf 10 = .ok (.return_, 1) := by decide +kernel
theorem dX5_passDayEating_0 : decode cX5_passDayEating 0 = .ok (.aload_n 0, 1) := by decide +kernel
theorem dX5_passDayEating_1 : decode cX5_passDayEating 1 = .ok (.dup, 1) := by decide +kernel
theorem dX5_passDayEating_2 : decode cX5_passDayEating 2 = .ok (.getfield 46, 3) := by decide +kernel
theorem dX5_passDayEating_5 : decode cX5_passDayEating 5 = .ok (.iconst 1, 1) := by decide +kernel
theorem dX5_passDayEating_6 : decode cX5_passDayEating 6 = .ok (.iadd, 1) := by decide +kernel
theorem dX5_passDayEating_7 : decode cX5_passDayEating 7 = .ok (.putfield 46, 3) := by decide +kernel
theorem dX5_passDayEating_10 : decode cX5_passDayEating 10 = .ok (.aload_n 0, 1) := by decide +kernel
theorem dX5_passDayEating_11 : decode cX5_passDayEating 11 = .ok (.iload_n 1, 1) := by decide +kernel
theorem dX5_passDayEating_12 : decode cX5_passDayEating 12 = .ok (.iload_n 2, 1) := by decide +kernel
theorem dX5_passDayEating_13 : decode cX5_passDayEating 13 = .ok (.invokevirtual 85, 3) := by decide +kernel
theorem dX5_passDayEating_16 : decode cX5_passDayEating 16 = .ok (.aload_n 0, 1) := by decide +kernel
theorem dX5_passDayEating_17 : decode cX5_passDayEating 17 = .ok (.iload_n 1, 1) := by decide +kernel
theorem dX5_passDayEating_18 : decode cX5_passDayEating 18 = .ok (.invokevirtual 88, 3) := by decide +kernel
theorem dX5_passDayEating_21 : decode cX5_passDayEating 21 = .ok (.ifCond .eq 8, 3) := by decide +kernel
theorem dX5_passDayEating_24 : decode cX5_passDayEating 24 = .ok (.aload_n 0, 1) := by decide +kernel
theorem dX5_passDayEating_25 : decode cX5_passDayEating 25 = .ok (.iload_n 1, 1) := by decide +kernel
theorem dX5_passDayEating_26 : decode cX5_passDayEating 26 = .ok (.invokevirtual 91, 3) := by decide +kernel
theorem dX5_passDayEating_29 : decode cX5_passDayEating 29 = .ok (.return_, 1) := by decide +kernel
theorem dX5_eatAndDance_0 : decode cX5_eatAndDance 0 = .ok (.aload_n 0, 1) := by decide +kernel
theorem dX5_eatAndDance_1 : decode cX5_eatAndDance 1 = .ok (.iload_n 1, 1) := by decide +kernel
theorem dX5_eatAndDance_2 : decode cX5_eatAndDance 2 = .ok (.invokevirtual 59, 3) := by decide +kernel
theorem dX5_eatAndDance_5 : decode cX5_eatAndDance 5 = .ok (.ifCond .eq 42, 3) := by decide +kernel
theorem dX5_eatAndDance_8 : decode cX5_eatAndDance 8 = .ok (.bipush 99, 2) := by decide +kernel
theorem dX5_eatAndDance_10 : decode cX5_eatAndDance 10 = .ok (.aload_n 0, 1) := by decide +kernel
theorem dX5_eatAndDance_11 : decode cX5_eatAndDance 11 = .ok (.getfield 17, 3) := by decide +kernel
theorem dX5_eatAndDance_14 : decode cX5_eatAndDance 14 = .ok (.iload_n 1, 1) := by decide +kernel
theorem dX5_eatAndDance_15 : decode cX5_eatAndDance 15 = .ok (.iaload, 1) := by decide +kernel
theorem dX5_eatAndDance_16 : decode cX5_eatAndDance 16 = .ok (.iload_n 2, 1) := by decide +kernel
theorem dX5_eatAndDance_17 : decode cX5_eatAndDance 17 = .ok (.iadd, 1) := by decide +kernel
theorem dX5_eatAndDance_18 : decode cX5_eatAndDance 18 = .ok (.invokestatic 98, 3) := by decide +kernel
theorem dX5_eatAndDance_21 : decode cX5_eatAndDance 21 = .ok (.istore_n 3, 1) := by decide +kernel
theorem dX5_eatAndDance_22 : decode cX5_eatAndDance 22 = .ok (.aload_n 0, 1) := by decide +kernel
theorem dX5_eatAndDance_23 : decode cX5_eatAndDance 23 = .ok (.getfield 17, 3) := by decide +kernel
theorem dX5_eatAndDance_26 : decode cX5_eatAndDance 26 = .ok (.iload_n 1, 1) := by decide +kernel
theorem dX5_eatAndDance_27 : decode cX5_eatAndDance 27 = .ok (.iconst 0, 1) := by decide +kernel
theorem dX5_eatAndDance_28 : decode cX5_eatAndDance 28 = .ok (.iload_n 3, 1) := by decide +kernel
theorem dX5_eatAndDance_29 : decode cX5_eatAndDance 29 = .ok (.aload_n 0, 1) := by decide +kernel
theorem dX5_eatAndDance_30 : decode cX5_eatAndDance 30 = .ok (.getfield 11, 3) := by decide +kernel
theorem dX5_eatAndDance_33 : decode cX5_eatAndDance 33 = .ok (.iload_n 1, 1) := by decide +kernel
theorem dX5_eatAndDance_34 : decode cX5_eatAndDance 34 = .ok (.aaload, 1) := by decide +kernel
theorem dX5_eatAndDance_35 : decode cX5_eatAndDance 35 = .ok (.aload_n 0, 1) := by decide +kernel
theorem dX5_eatAndDance_36 : decode cX5_eatAndDance 36 = .ok (.getfield 40, 3) := by decide +kernel
theorem dX5_eatAndDance_39 : decode cX5_eatAndDance 39 = .ok (.invokevirtual 101, 3) := by decide +kernel
theorem dX5_eatAndDance_42 : decode cX5_eatAndDance 42 = .ok (.isub, 1) := by decide +kernel
theorem dX5_eatAndDance_43 : decode cX5_eatAndDance 43 = .ok (.invokestatic 66, 3) := by decide +kernel
theorem dX5_eatAndDance_46 : decode cX5_eatAndDance 46 = .ok (.iastore, 1) := by decide +kernel
theorem dX5_eatAndDance_47 : decode cX5_eatAndDance 47 = .ok (.return_, 1) := by decide +kernel
theorem dX5_goAway_0 : decode cX5_goAway 0 = .ok (.aload_n 0, 1) := by decide +kernel
theorem dX5_goAway_1 : decode cX5_goAway 1 = .ok (.dup, 1) := by decide +kernel
theorem dX5_goAway_2 : decode cX5_goAway 2 = .ok (.getfield 34, 3) := by decide +kernel
theorem dX5_goAway_5 : decode cX5_goAway 5 = .ok (.iconst 1, 1) := by decide +kernel
theorem dX5_goAway_6 : decode cX5_goAway 6 = .ok (.iload_n 1, 1) := by decide +kernel
theorem dX5_goAway_7 : decode cX5_goAway 7 = .ok (.ishl, 1) := by decide +kernel
theorem dX5_goAway_8 : decode cX5_goAway 8 = .ok (.iconst (-1), 1) := by decide +kernel
theorem dX5_goAway_9 : decode cX5_goAway 9 = .ok (.ixor, 1) := by decide +kernel
theorem dX5_goAway_10 : decode cX5_goAway 10 = .ok (.iand, 1) := by decide +kernel
theorem dX5_goAway_11 : decode cX5_goAway 11 = .ok (.putfield 34, 3) := by decide +kernel
theorem dX5_goAway_14 : decode cX5_goAway 14 = .ok (.aload_n 0, 1) := by decide +kernel
theorem dX5_goAway_15 : decode cX5_goAway 15 = .ok (.sipush 9999, 3) := by decide +kernel
theorem dX5_goAway_18 : decode cX5_goAway 18 = .ok (.aload_n 0, 1) := by decide +kernel
theorem dX5_goAway_19 : decode cX5_goAway 19 = .ok (.getfield 43, 3) := by decide +kernel
theorem dX5_goAway_22 : decode cX5_goAway 22 = .ok (.aload_n 0, 1) := by decide +kernel
theorem dX5_goAway_23 : decode cX5_goAway 23 = .ok (.getfield 21, 3) := by decide +kernel
theorem dX5_goAway_26 : decode cX5_goAway 26 = .ok (.iload_n 1, 1) := by decide +kernel
theorem dX5_goAway_27 : decode cX5_goAway 27 = .ok (.iaload, 1) := by decide +kernel
theorem dX5_goAway_28 : decode cX5_goAway 28 = .ok (.iadd, 1) := by decide +kernel
theorem dX5_goAway_29 : decode cX5_goAway 29 = .ok (.aload_n 0, 1) := by decide +kernel
theorem dX5_goAway_30 : decode cX5_goAway 30 = .ok (.getfield 17, 3) := by decide +kernel
theorem dX5_goAway_33 : decode cX5_goAway 33 = .ok (.iload_n 1, 1) := by decide +kernel
theorem dX5_goAway_34 : decode cX5_goAway 34 = .ok (.iaload, 1) := by decide +kernel
theorem dX5_goAway_35 : decode cX5_goAway 35 = .ok (.isub, 1) := by decide +kernel
theorem dX5_goAway_36 : decode cX5_goAway 36 = .ok (.invokestatic 98, 3) := by decide +kernel
theorem dX5_goAway_39 : decode cX5_goAway 39 = .ok (.putfield 43, 3) := by decide +kernel
theorem dX5_goAway_42 : decode cX5_goAway 42 = .ok (.return_, 1) := by decide +kernel
theorem dX5_weightOfAll_0 : decode cX5_weightOfAll 0 = .ok (.iconst 0, 1) := by decide +kernel
theorem dX5_weightOfAll_1 : decode cX5_weightOfAll 1 = .ok (.istore_n 1, 1) := by decide +kernel
theorem dX5_weightOfAll_2 : decode cX5_weightOfAll 2 = .ok (.iconst 0, 1) := by decide +kernel
theorem dX5_weightOfAll_3 : decode cX5_weightOfAll 3 = .ok (.istore_n 2, 1) := by decide +kernel
theorem dX5_weightOfAll_4 : decode cX5_weightOfAll 4 = .ok (.iload_n 2, 1) := by decide +kernel
theorem dX5_weightOfAll_5 : decode cX5_weightOfAll 5 = .ok (.aload_n 0, 1) := by decide +kernel
theorem dX5_weightOfAll_6 : decode cX5_weightOfAll 6 = .ok (.getfield 30, 3) := by decide +kernel
theorem dX5_weightOfAll_9 : decode cX5_weightOfAll 9 = .ok (.if_icmp .ge 30, 3) := by decide +kernel
theorem dX5_weightOfAll_12 : decode cX5_weightOfAll 12 = .ok (.iload_n 1, 1) := by decide +kernel
theorem dX5_weightOfAll_13 : decode cX5_weightOfAll 13 = .ok (.aload_n 0, 1) := by decide +kernel
theorem dX5_weightOfAll_14 : decode cX5_weightOfAll 14 = .ok (.iload_n 2, 1) := by decide +kernel
theorem dX5_weightOfAll_15 : decode cX5_weightOfAll 15 = .ok (.invokevirtual 59, 3) := by decide +kernel
theorem dX5_weightOfAll_18 : decode cX5_weightOfAll 18 = .ok (.ifCond .eq 12, 3) := by decide +kernel
theorem dX5_weightOfAll_21 : decode cX5_weightOfAll 21 = .ok (.aload_n 0, 1) := by decide +kernel
theorem dX5_weightOfAll_22 : decode cX5_weightOfAll 22 = .ok (.getfield 17, 3) := by decide +kernel
theorem dX5_weightOfAll_25 : decode cX5_weightOfAll 25 = .ok (.iload_n 2, 1) := by decide +kernel
theorem dX5_weightOfAll_26 : decode cX5_weightOfAll 26 = .ok (.iaload, 1) := by decide +kernel
theorem dX5_weightOfAll_27 : decode cX5_weightOfAll 27 = .ok (.goto 4, 3) := by decide +kernel
theorem dX5_weightOfAll_30 : decode cX5_weightOfAll 30 = .ok (.iconst 0, 1) := by decide +kernel
theorem dX5_weightOfAll_31 : decode cX5_weightOfAll 31 = .ok (.iadd, 1) := by decide +kernel
theorem dX5_weightOfAll_32 : decode cX5_weightOfAll 32 = .ok (.istore_n 1, 1) := by decide +kernel
theorem dX5_weightOfAll_33 : decode cX5_weightOfAll 33 = .ok (.iinc 2 1, 3) := by decide +kernel
theorem dX5_weightOfAll_36 : decode cX5_weightOfAll 36 = .ok (.goto (-32), 3) := by decide +kernel
theorem dX5_weightOfAll_39 : decode cX5_weightOfAll 39 = .ok (.iload_n 1, 1) := by decide +kernel
theorem dX5_weightOfAll_40 : decode cX5_weightOfAll 40 = .ok (.ireturn, 1) := by decide +kernel
theorem dX5_ledgerOfAll_0 : decode cX5_ledgerOfAll 0 = .ok (.iconst 0, 1) := by decide +kernel
theorem dX5_ledgerOfAll_1 : decode cX5_ledgerOfAll 1 = .ok (.istore_n 1, 1) := by decide +kernel
theorem dX5_ledgerOfAll_2 : decode cX5_ledgerOfAll 2 = .ok (.iconst 0, 1) := by decide +kernel
theorem dX5_ledgerOfAll_3 : decode cX5_ledgerOfAll 3 = .ok (.istore_n 2, 1) := by decide +kernel
theorem dX5_ledgerOfAll_4 : decode cX5_ledgerOfAll 4 = .ok (.iload_n 2, 1) := by decide +kernel
theorem dX5_ledgerOfAll_5 : decode cX5_ledgerOfAll 5 = .ok (.aload_n 0, 1) := by decide +kernel
theorem dX5_ledgerOfAll_6 : decode cX5_ledgerOfAll 6 = .ok (.getfield 30, 3) := by decide +kernel
theorem dX5_ledgerOfAll_9 : decode cX5_ledgerOfAll 9 = .ok (.if_icmp .ge 37, 3) := by decide +kernel
theorem dX5_ledgerOfAll_12 : decode cX5_ledgerOfAll 12 = .ok (.iload_n 1, 1) := by decide +kernel
theorem dX5_ledgerOfAll_13 : decode cX5_ledgerOfAll 13 = .ok (.aload_n 0, 1) := by decide +kernel
theorem dX5_ledgerOfAll_14 : decode cX5_ledgerOfAll 14 = .ok (.iload_n 2, 1) := by decide +kernel
theorem dX5_ledgerOfAll_15 : decode cX5_ledgerOfAll 15 = .ok (.invokevirtual 59, 3) := by decide +kernel
theorem dX5_ledgerOfAll_18 : decode cX5_ledgerOfAll 18 = .ok (.ifCond .eq 19, 3) := by decide +kernel
theorem dX5_ledgerOfAll_21 : decode cX5_ledgerOfAll 21 = .ok (.aload_n 0, 1) := by decide +kernel
theorem dX5_ledgerOfAll_22 : decode cX5_ledgerOfAll 22 = .ok (.getfield 21, 3) := by decide +kernel
theorem dX5_ledgerOfAll_25 : decode cX5_ledgerOfAll 25 = .ok (.iload_n 2, 1) := by decide +kernel
theorem dX5_ledgerOfAll_26 : decode cX5_ledgerOfAll 26 = .ok (.iaload, 1) := by decide +kernel
theorem dX5_ledgerOfAll_27 : decode cX5_ledgerOfAll 27 = .ok (.aload_n 0, 1) := by decide +kernel
theorem dX5_ledgerOfAll_28 : decode cX5_ledgerOfAll 28 = .ok (.getfield 17, 3) := by decide +kernel
theorem dX5_ledgerOfAll_31 : decode cX5_ledgerOfAll 31 = .ok (.iload_n 2, 1) := by decide +kernel
theorem dX5_ledgerOfAll_32 : decode cX5_ledgerOfAll 32 = .ok (.iaload, 1) := by decide +kernel
theorem dX5_ledgerOfAll_33 : decode cX5_ledgerOfAll 33 = .ok (.isub, 1) := by decide +kernel
theorem dX5_ledgerOfAll_34 : decode cX5_ledgerOfAll 34 = .ok (.goto 4, 3) := by decide +kernel
theorem dX5_ledgerOfAll_37 : decode cX5_ledgerOfAll 37 = .ok (.iconst 0, 1) := by decide +kernel
theorem dX5_ledgerOfAll_38 : decode cX5_ledgerOfAll 38 = .ok (.iadd, 1) := by decide +kernel
theorem dX5_ledgerOfAll_39 : decode cX5_ledgerOfAll 39 = .ok (.istore_n 1, 1) := by decide +kernel
theorem dX5_ledgerOfAll_40 : decode cX5_ledgerOfAll 40 = .ok (.iinc 2 1, 3) := by decide +kernel
theorem dX5_ledgerOfAll_43 : decode cX5_ledgerOfAll 43 = .ok (.goto (-39), 3) := by decide +kernel
theorem dX5_ledgerOfAll_46 : decode cX5_ledgerOfAll 46 = .ok (.iload_n 1, 1) := by decide +kernel
theorem dX5_ledgerOfAll_47 : decode cX5_ledgerOfAll 47 = .ok (.ireturn, 1) := by decide +kernel
theorem dX5_secretsOfAll_0 : decode cX5_secretsOfAll 0 = .ok (.iconst 0, 1) := by decide +kernel
theorem dX5_secretsOfAll_1 : decode cX5_secretsOfAll 1 = .ok (.istore_n 1, 1) := by decide +kernel
theorem dX5_secretsOfAll_2 : decode cX5_secretsOfAll 2 = .ok (.iconst 0, 1) := by decide +kernel
theorem dX5_secretsOfAll_3 : decode cX5_secretsOfAll 3 = .ok (.istore_n 2, 1) := by decide +kernel
theorem dX5_secretsOfAll_4 : decode cX5_secretsOfAll 4 = .ok (.iload_n 2, 1) := by decide +kernel
theorem dX5_secretsOfAll_5 : decode cX5_secretsOfAll 5 = .ok (.aload_n 0, 1) := by decide +kernel
theorem dX5_secretsOfAll_6 : decode cX5_secretsOfAll 6 = .ok (.getfield 30, 3) := by decide +kernel
theorem dX5_secretsOfAll_9 : decode cX5_secretsOfAll 9 = .ok (.if_icmp .ge 30, 3) := by decide +kernel
theorem dX5_secretsOfAll_12 : decode cX5_secretsOfAll 12 = .ok (.iload_n 1, 1) := by decide +kernel
theorem dX5_secretsOfAll_13 : decode cX5_secretsOfAll 13 = .ok (.aload_n 0, 1) := by decide +kernel
theorem dX5_secretsOfAll_14 : decode cX5_secretsOfAll 14 = .ok (.iload_n 2, 1) := by decide +kernel
theorem dX5_secretsOfAll_15 : decode cX5_secretsOfAll 15 = .ok (.invokevirtual 59, 3) := by decide +kernel
theorem dX5_secretsOfAll_18 : decode cX5_secretsOfAll 18 = .ok (.ifCond .eq 12, 3) := by decide +kernel
theorem dX5_secretsOfAll_21 : decode cX5_secretsOfAll 21 = .ok (.aload_n 0, 1) := by decide +kernel
theorem dX5_secretsOfAll_22 : decode cX5_secretsOfAll 22 = .ok (.getfield 24, 3) := by decide +kernel
theorem dX5_secretsOfAll_25 : decode cX5_secretsOfAll 25 = .ok (.iload_n 2, 1) := by decide +kernel
theorem dX5_secretsOfAll_26 : decode cX5_secretsOfAll 26 = .ok (.iaload, 1) := by decide +kernel
theorem dX5_secretsOfAll_27 : decode cX5_secretsOfAll 27 = .ok (.goto 4, 3) := by decide +kernel
theorem dX5_secretsOfAll_30 : decode cX5_secretsOfAll 30 = .ok (.iconst 0, 1) := by decide +kernel
theorem dX5_secretsOfAll_31 : decode cX5_secretsOfAll 31 = .ok (.iadd, 1) := by decide +kernel
theorem dX5_secretsOfAll_32 : decode cX5_secretsOfAll 32 = .ok (.istore_n 1, 1) := by decide +kernel
theorem dX5_secretsOfAll_33 : decode cX5_secretsOfAll 33 = .ok (.iinc 2 1, 3) := by decide +kernel
theorem dX5_secretsOfAll_36 : decode cX5_secretsOfAll 36 = .ok (.goto (-32), 3) := by decide +kernel
theorem dX5_secretsOfAll_39 : decode cX5_secretsOfAll 39 = .ok (.iload_n 1, 1) := by decide +kernel
theorem dX5_secretsOfAll_40 : decode cX5_secretsOfAll 40 = .ok (.ireturn, 1) := by decide +kernel
theorem dX5_withoutSecrets_0 : decode cX5_withoutSecrets 0 = .ok (.iconst 0, 1) := by decide +kernel
theorem dX5_withoutSecrets_1 : decode cX5_withoutSecrets 1 = .ok (.istore_n 1, 1) := by decide +kernel
theorem dX5_withoutSecrets_2 : decode cX5_withoutSecrets 2 = .ok (.iconst 0, 1) := by decide +kernel
theorem dX5_withoutSecrets_3 : decode cX5_withoutSecrets 3 = .ok (.istore_n 2, 1) := by decide +kernel
theorem dX5_withoutSecrets_4 : decode cX5_withoutSecrets 4 = .ok (.iload_n 2, 1) := by decide +kernel
theorem dX5_withoutSecrets_5 : decode cX5_withoutSecrets 5 = .ok (.aload_n 0, 1) := by decide +kernel
theorem dX5_withoutSecrets_6 : decode cX5_withoutSecrets 6 = .ok (.getfield 30, 3) := by decide +kernel
theorem dX5_withoutSecrets_9 : decode cX5_withoutSecrets 9 = .ok (.if_icmp .ge 32, 3) := by decide +kernel
theorem dX5_withoutSecrets_12 : decode cX5_withoutSecrets 12 = .ok (.aload_n 0, 1) := by decide +kernel
theorem dX5_withoutSecrets_13 : decode cX5_withoutSecrets 13 = .ok (.iload_n 2, 1) := by decide +kernel
theorem dX5_withoutSecrets_14 : decode cX5_withoutSecrets 14 = .ok (.invokevirtual 59, 3) := by decide +kernel
theorem dX5_withoutSecrets_17 : decode cX5_withoutSecrets 17 = .ok (.ifCond .eq 18, 3) := by decide +kernel
theorem dX5_withoutSecrets_20 : decode cX5_withoutSecrets 20 = .ok (.aload_n 0, 1) := by decide +kernel
theorem dX5_withoutSecrets_21 : decode cX5_withoutSecrets 21 = .ok (.getfield 24, 3) := by decide +kernel
theorem dX5_withoutSecrets_24 : decode cX5_withoutSecrets 24 = .ok (.iload_n 2, 1) := by decide +kernel
theorem dX5_withoutSecrets_25 : decode cX5_withoutSecrets 25 = .ok (.iaload, 1) := by decide +kernel
theorem dX5_withoutSecrets_26 : decode cX5_withoutSecrets 26 = .ok (.ifCond .ne 9, 3) := by decide +kernel
theorem dX5_withoutSecrets_29 : decode cX5_withoutSecrets 29 = .ok (.iload_n 1, 1) := by decide +kernel
theorem dX5_withoutSecrets_30 : decode cX5_withoutSecrets 30 = .ok (.iconst 1, 1) := by decide +kernel
theorem dX5_withoutSecrets_31 : decode cX5_withoutSecrets 31 = .ok (.iload_n 2, 1) := by decide +kernel
theorem dX5_withoutSecrets_32 : decode cX5_withoutSecrets 32 = .ok (.ishl, 1) := by decide +kernel
theorem dX5_withoutSecrets_33 : decode cX5_withoutSecrets 33 = .ok (.ior, 1) := by decide +kernel
theorem dX5_withoutSecrets_34 : decode cX5_withoutSecrets 34 = .ok (.istore_n 1, 1) := by decide +kernel
theorem dX5_withoutSecrets_35 : decode cX5_withoutSecrets 35 = .ok (.iinc 2 1, 3) := by decide +kernel
theorem dX5_withoutSecrets_38 : decode cX5_withoutSecrets 38 = .ok (.goto (-34), 3) := by decide +kernel
theorem dX5_withoutSecrets_41 : decode cX5_withoutSecrets 41 = .ok (.iload_n 1, 1) := by decide +kernel
theorem dX5_withoutSecrets_42 : decode cX5_withoutSecrets 42 = .ok (.ireturn, 1) := by decide +kernel
theorem dX5_alikeTwos_0 : decode cX5_alikeTwos 0 = .ok (.iconst 0, 1) := by decide +kernel
theorem dX5_alikeTwos_1 : decode cX5_alikeTwos 1 = .ok (.istore_n 1, 1) := by decide +kernel
theorem dX5_alikeTwos_2 : decode cX5_alikeTwos 2 = .ok (.iconst 0, 1) := by decide +kernel
theorem dX5_alikeTwos_3 : decode cX5_alikeTwos 3 = .ok (.istore_n 2, 1) := by decide +kernel
theorem dX5_alikeTwos_4 : decode cX5_alikeTwos 4 = .ok (.iload_n 2, 1) := by decide +kernel
theorem dX5_alikeTwos_5 : decode cX5_alikeTwos 5 = .ok (.aload_n 0, 1) := by decide +kernel
theorem dX5_alikeTwos_6 : decode cX5_alikeTwos 6 = .ok (.getfield 30, 3) := by decide +kernel
theorem dX5_alikeTwos_9 : decode cX5_alikeTwos 9 = .ok (.if_icmp .ge 61, 3) := by decide +kernel
theorem dX5_alikeTwos_12 : decode cX5_alikeTwos 12 = .ok (.iload_n 2, 1) := by decide +kernel
theorem dX5_alikeTwos_13 : decode cX5_alikeTwos 13 = .ok (.iconst 1, 1) := by decide +kernel
theorem dX5_alikeTwos_14 : decode cX5_alikeTwos 14 = .ok (.iadd, 1) := by decide +kernel
theorem dX5_alikeTwos_15 : decode cX5_alikeTwos 15 = .ok (.istore_n 3, 1) := by decide +kernel
theorem dX5_alikeTwos_16 : decode cX5_alikeTwos 16 = .ok (.iload_n 3, 1) := by decide +kernel
theorem dX5_alikeTwos_17 : decode cX5_alikeTwos 17 = .ok (.aload_n 0, 1) := by decide +kernel
theorem dX5_alikeTwos_18 : decode cX5_alikeTwos 18 = .ok (.getfield 30, 3) := by decide +kernel
theorem dX5_alikeTwos_21 : decode cX5_alikeTwos 21 = .ok (.if_icmp .ge 43, 3) := by decide +kernel
theorem dX5_alikeTwos_24 : decode cX5_alikeTwos 24 = .ok (.aload_n 0, 1) := by decide +kernel
theorem dX5_alikeTwos_25 : decode cX5_alikeTwos 25 = .ok (.iload_n 2, 1) := by decide +kernel
theorem dX5_alikeTwos_26 : decode cX5_alikeTwos 26 = .ok (.invokevirtual 59, 3) := by decide +kernel
theorem dX5_alikeTwos_29 : decode cX5_alikeTwos 29 = .ok (.ifCond .eq 29, 3) := by decide +kernel
theorem dX5_alikeTwos_32 : decode cX5_alikeTwos 32 = .ok (.aload_n 0, 1) := by decide +kernel
theorem dX5_alikeTwos_33 : decode cX5_alikeTwos 33 = .ok (.iload_n 3, 1) := by decide +kernel
theorem dX5_alikeTwos_34 : decode cX5_alikeTwos 34 = .ok (.invokevirtual 59, 3) := by decide +kernel
theorem dX5_alikeTwos_37 : decode cX5_alikeTwos 37 = .ok (.ifCond .eq 21, 3) := by decide +kernel
theorem dX5_alikeTwos_40 : decode cX5_alikeTwos 40 = .ok (.aload_n 0, 1) := by decide +kernel
theorem dX5_alikeTwos_41 : decode cX5_alikeTwos 41 = .ok (.getfield 17, 3) := by decide +kernel
theorem dX5_alikeTwos_44 : decode cX5_alikeTwos 44 = .ok (.iload_n 2, 1) := by decide +kernel
theorem dX5_alikeTwos_45 : decode cX5_alikeTwos 45 = .ok (.iaload, 1) := by decide +kernel
theorem dX5_alikeTwos_46 : decode cX5_alikeTwos 46 = .ok (.aload_n 0, 1) := by decide +kernel
theorem dX5_alikeTwos_47 : decode cX5_alikeTwos 47 = .ok (.getfield 17, 3) := by decide +kernel
theorem dX5_alikeTwos_50 : decode cX5_alikeTwos 50 = .ok (.iload_n 3, 1) := by decide +kernel
theorem dX5_alikeTwos_51 : decode cX5_alikeTwos 51 = .ok (.iaload, 1) := by decide +kernel
theorem dX5_alikeTwos_52 : decode cX5_alikeTwos 52 = .ok (.if_icmp .ne 6, 3) := by decide +kernel
theorem dX5_alikeTwos_55 : decode cX5_alikeTwos 55 = .ok (.iinc 1 1, 3) := by decide +kernel
theorem dX5_alikeTwos_58 : decode cX5_alikeTwos 58 = .ok (.iinc 3 1, 3) := by decide +kernel
theorem dX5_alikeTwos_61 : decode cX5_alikeTwos 61 = .ok (.goto (-45), 3) := by decide +kernel
theorem dX5_alikeTwos_64 : decode cX5_alikeTwos 64 = .ok (.iinc 2 1, 3) := by decide +kernel
theorem dX5_alikeTwos_67 : decode cX5_alikeTwos 67 = .ok (.goto (-63), 3) := by decide +kernel
theorem dX5_alikeTwos_70 : decode cX5_alikeTwos 70 = .ok (.iload_n 1, 1) := by decide +kernel
theorem dX5_alikeTwos_71 : decode cX5_alikeTwos 71 = .ok (.ireturn, 1) := by decide +kernel
theorem dX5_heaviest_0 : decode cX5_heaviest 0 = .ok (.bipush (-4), 2) := by decide +kernel
theorem dX5_heaviest_2 : decode cX5_heaviest 2 = .ok (.istore_n 1, 1) := by decide +kernel
theorem dX5_heaviest_3 : decode cX5_heaviest 3 = .ok (.iconst (-1), 1) := by decide +kernel
theorem dX5_heaviest_4 : decode cX5_heaviest 4 = .ok (.istore_n 2, 1) := by decide +kernel
theorem dX5_heaviest_5 : decode cX5_heaviest 5 = .ok (.iconst 0, 1) := by decide +kernel
theorem dX5_heaviest_6 : decode cX5_heaviest 6 = .ok (.istore_n 3, 1) := by decide +kernel
theorem dX5_heaviest_7 : decode cX5_heaviest 7 = .ok (.iload_n 3, 1) := by decide +kernel
theorem dX5_heaviest_8 : decode cX5_heaviest 8 = .ok (.aload_n 0, 1) := by decide +kernel
theorem dX5_heaviest_9 : decode cX5_heaviest 9 = .ok (.getfield 30, 3) := by decide +kernel
theorem dX5_heaviest_12 : decode cX5_heaviest 12 = .ok (.if_icmp .ge 36, 3) := by decide +kernel
theorem dX5_heaviest_15 : decode cX5_heaviest 15 = .ok (.aload_n 0, 1) := by decide +kernel
theorem dX5_heaviest_16 : decode cX5_heaviest 16 = .ok (.iload_n 3, 1) := by decide +kernel
theorem dX5_heaviest_17 : decode cX5_heaviest 17 = .ok (.invokevirtual 59, 3) := by decide +kernel
theorem dX5_heaviest_20 : decode cX5_heaviest 20 = .ok (.ifCond .eq 22, 3) := by decide +kernel
theorem dX5_heaviest_23 : decode cX5_heaviest 23 = .ok (.aload_n 0, 1) := by decide +kernel
theorem dX5_heaviest_24 : decode cX5_heaviest 24 = .ok (.getfield 17, 3) := by decide +kernel
theorem dX5_heaviest_27 : decode cX5_heaviest 27 = .ok (.iload_n 3, 1) := by decide +kernel
theorem dX5_heaviest_28 : decode cX5_heaviest 28 = .ok (.iaload, 1) := by decide +kernel
theorem dX5_heaviest_29 : decode cX5_heaviest 29 = .ok (.iload_n 2, 1) := by decide +kernel
theorem dX5_heaviest_30 : decode cX5_heaviest 30 = .ok (.if_icmp .le 12, 3) := by decide +kernel
theorem dX5_heaviest_33 : decode cX5_heaviest 33 = .ok (.iload_n 3, 1) := by decide +kernel
theorem dX5_heaviest_34 : decode cX5_heaviest 34 = .ok (.istore_n 1, 1) := by decide +kernel
theorem dX5_heaviest_35 : decode cX5_heaviest 35 = .ok (.aload_n 0, 1) := by decide +kernel
theorem dX5_heaviest_36 : decode cX5_heaviest 36 = .ok (.getfield 17, 3) := by decide +kernel
theorem dX5_heaviest_39 : decode cX5_heaviest 39 = .ok (.iload_n 3, 1) := by decide +kernel
theorem dX5_heaviest_40 : decode cX5_heaviest 40 = .ok (.iaload, 1) := by decide +kernel
theorem dX5_heaviest_41 : decode cX5_heaviest 41 = .ok (.istore_n 2, 1) := by decide +kernel
theorem dX5_heaviest_42 : decode cX5_heaviest 42 = .ok (.iinc 3 1, 3) := by decide +kernel
theorem dX5_heaviest_45 : decode cX5_heaviest 45 = .ok (.goto (-38), 3) := by decide +kernel
theorem dX5_heaviest_48 : decode cX5_heaviest 48 = .ok (.iload_n 1, 1) := by decide +kernel
theorem dX5_heaviest_49 : decode cX5_heaviest 49 = .ok (.ireturn, 1) := by decide +kernel
theorem dX5_byWeight_0 : decode cX5_byWeight 0 = .ok (.iconst 0, 1) := by decide +kernel
theorem dX5_byWeight_1 : decode cX5_byWeight 1 = .ok (.istore_n 2, 1) := by decide +kernel
theorem dX5_byWeight_2 : decode cX5_byWeight 2 = .ok (.iload_n 2, 1) := by decide +kernel
theorem dX5_byWeight_3 : decode cX5_byWeight 3 = .ok (.aload_n 0, 1) := by decide +kernel
theorem dX5_byWeight_4 : decode cX5_byWeight 4 = .ok (.getfield 30, 3) := by decide +kernel
theorem dX5_byWeight_7 : decode cX5_byWeight 7 = .ok (.if_icmp .ge 28, 3) := by decide +kernel
theorem dX5_byWeight_10 : decode cX5_byWeight 10 = .ok (.aload_n 0, 1) := by decide +kernel
theorem dX5_byWeight_11 : decode cX5_byWeight 11 = .ok (.iload_n 2, 1) := by decide +kernel
theorem dX5_byWeight_12 : decode cX5_byWeight 12 = .ok (.invokevirtual 59, 3) := by decide +kernel
theorem dX5_byWeight_15 : decode cX5_byWeight 15 = .ok (.ifCond .eq 14, 3) := by decide +kernel
theorem dX5_byWeight_18 : decode cX5_byWeight 18 = .ok (.aload_n 0, 1) := by decide +kernel
theorem dX5_byWeight_19 : decode cX5_byWeight 19 = .ok (.iload_n 2, 1) := by decide +kernel
theorem dX5_byWeight_20 : decode cX5_byWeight 20 = .ok (.invokevirtual 104, 3) := by decide +kernel
theorem dX5_byWeight_23 : decode cX5_byWeight 23 = .ok (.iload_n 1, 1) := by decide +kernel
theorem dX5_byWeight_24 : decode cX5_byWeight 24 = .ok (.if_icmp .ne 5, 3) := by decide +kernel
theorem dX5_byWeight_27 : decode cX5_byWeight 27 = .ok (.iload_n 2, 1) := by decide +kernel
theorem dX5_byWeight_28 : decode cX5_byWeight 28 = .ok (.ireturn, 1) := by decide +kernel
theorem dX5_byWeight_29 : decode cX5_byWeight 29 = .ok (.iinc 2 1, 3) := by decide +kernel
theorem dX5_byWeight_32 : decode cX5_byWeight 32 = .ok (.goto (-30), 3) := by decide +kernel
theorem dX5_byWeight_35 : decode cX5_byWeight 35 = .ok (.bipush (-4), 2) := by decide +kernel
theorem dX5_byWeight_37 : decode cX5_byWeight 37 = .ok (.ireturn, 1) := by decide +kernel
theorem dX5_lighterThan_0 : decode cX5_lighterThan 0 = .ok (.iconst 0, 1) := by decide +kernel
theorem dX5_lighterThan_1 : decode cX5_lighterThan 1 = .ok (.istore_n 2, 1) := by decide +kernel
theorem dX5_lighterThan_2 : decode cX5_lighterThan 2 = .ok (.iconst 0, 1) := by decide +kernel
theorem dX5_lighterThan_3 : decode cX5_lighterThan 3 = .ok (.istore_n 3, 1) := by decide +kernel
theorem dX5_lighterThan_4 : decode cX5_lighterThan 4 = .ok (.iload_n 3, 1) := by decide +kernel
theorem dX5_lighterThan_5 : decode cX5_lighterThan 5 = .ok (.aload_n 0, 1) := by decide +kernel
theorem dX5_lighterThan_6 : decode cX5_lighterThan 6 = .ok (.getfield 30, 3) := by decide +kernel
theorem dX5_lighterThan_9 : decode cX5_lighterThan 9 = .ok (.if_icmp .ge 67, 3) := by decide +kernel
theorem dX5_lighterThan_12 : decode cX5_lighterThan 12 = .ok (.aload_n 0, 1) := by decide +kernel
theorem dX5_lighterThan_13 : decode cX5_lighterThan 13 = .ok (.getfield 17, 3) := by decide +kernel
theorem dX5_lighterThan_16 : decode cX5_lighterThan 16 = .ok (.iload_n 3, 1) := by decide +kernel
theorem dX5_lighterThan_17 : decode cX5_lighterThan 17 = .ok (.iaload, 1) := by decide +kernel
theorem dX5_lighterThan_18 : decode cX5_lighterThan 18 = .ok (.aload_n 0, 1) := by decide +kernel
theorem dX5_lighterThan_19 : decode cX5_lighterThan 19 = .ok (.getfield 17, 3) := by decide +kernel
theorem dX5_lighterThan_22 : decode cX5_lighterThan 22 = .ok (.iload_n 1, 1) := by decide +kernel
theorem dX5_lighterThan_23 : decode cX5_lighterThan 23 = .ok (.iaload, 1) := by decide +kernel
theorem dX5_lighterThan_24 : decode cX5_lighterThan 24 = .ok (.if_icmp .lt 23, 3) := by decide +kernel
theorem dX5_lighterThan_27 : decode cX5_lighterThan 27 = .ok (.aload_n 0, 1) := by decide +kernel
theorem dX5_lighterThan_28 : decode cX5_lighterThan 28 = .ok (.getfield 17, 3) := by decide +kernel
theorem dX5_lighterThan_31 : decode cX5_lighterThan 31 = .ok (.iload_n 3, 1) := by decide +kernel
theorem dX5_lighterThan_32 : decode cX5_lighterThan 32 = .ok (.iaload, 1) := by decide +kernel
theorem dX5_lighterThan_33 : decode cX5_lighterThan 33 = .ok (.aload_n 0, 1) := by decide +kernel
theorem dX5_lighterThan_34 : decode cX5_lighterThan 34 = .ok (.getfield 17, 3) := by decide +kernel
theorem dX5_lighterThan_37 : decode cX5_lighterThan 37 = .ok (.iload_n 1, 1) := by decide +kernel
theorem dX5_lighterThan_38 : decode cX5_lighterThan 38 = .ok (.iaload, 1) := by decide +kernel
theorem dX5_lighterThan_39 : decode cX5_lighterThan 39 = .ok (.if_icmp .ne 12, 3) := by decide +kernel
theorem dX5_lighterThan_42 : decode cX5_lighterThan 42 = .ok (.iload_n 3, 1) := by decide +kernel
theorem dX5_lighterThan_43 : decode cX5_lighterThan 43 = .ok (.iload_n 1, 1) := by decide +kernel
theorem dX5_lighterThan_44 : decode cX5_lighterThan 44 = .ok (.if_icmp .ge 7, 3) := by decide +kernel
theorem dX5_lighterThan_47 : decode cX5_lighterThan 47 = .ok (.iconst 1, 1) := by decide +kernel
theorem dX5_lighterThan_48 : decode cX5_lighterThan 48 = .ok (.goto 4, 3) := by decide +kernel
theorem dX5_lighterThan_51 : decode cX5_lighterThan 51 = .ok (.iconst 0, 1) := by decide +kernel
theorem dX5_lighterThan_52 : decode cX5_lighterThan 52 = .ok (.istore 4, 2) := by decide +kernel
theorem dX5_lighterThan_54 : decode cX5_lighterThan 54 = .ok (.aload_n 0, 1) := by decide +kernel
theorem dX5_lighterThan_55 : decode cX5_lighterThan 55 = .ok (.iload_n 3, 1) := by decide +kernel
theorem dX5_lighterThan_56 : decode cX5_lighterThan 56 = .ok (.invokevirtual 59, 3) := by decide +kernel
theorem dX5_lighterThan_59 : decode cX5_lighterThan 59 = .ok (.ifCond .eq 11, 3) := by decide +kernel
theorem dX5_lighterThan_62 : decode cX5_lighterThan 62 = .ok (.iload 4, 2) := by decide +kernel
theorem dX5_lighterThan_64 : decode cX5_lighterThan 64 = .ok (.ifCond .eq 6, 3) := by decide +kernel
theorem dX5_lighterThan_67 : decode cX5_lighterThan 67 = .ok (.iinc 2 1, 3) := by decide +kernel
theorem dX5_lighterThan_70 : decode cX5_lighterThan 70 = .ok (.iinc 3 1, 3) := by decide +kernel
theorem dX5_lighterThan_73 : decode cX5_lighterThan 73 = .ok (.goto (-69), 3) := by decide +kernel
theorem dX5_lighterThan_76 : decode cX5_lighterThan 76 = .ok (.iload_n 2, 1) := by decide +kernel
theorem dX5_lighterThan_77 : decode cX5_lighterThan 77 = .ok (.ireturn, 1) := by decide +kernel
theorem dX6_init_0 : decode cX6_init 0 = .ok (.aload_n 0, 1) := by decide +kernel
theorem dX6_init_1 : decode cX6_init 1 = .ok (.iload_n 1, 1) := by decide +kernel
theorem dX6_init_2 : decode cX6_init 2 = .ok (.iload_n 2, 1) := by decide +kernel
theorem dX6_init_3 : decode cX6_init 3 = .ok (.invokespecial 1, 3) := by decide +kernel
theorem dX6_init_6 : decode cX6_init 6 = .ok (.return_, 1) := by decide +kernel
theorem dX6_food_0 : decode cX6_food 0 = .ok (.iconst 0, 1) := by decide +kernel
theorem dX6_food_1 : decode cX6_food 1 = .ok (.aload_n 0, 1) := by decide +kernel
theorem dX6_food_2 : decode cX6_food 2 = .ok (.iload_n 1, 1) := by decide +kernel
theorem dX6_food_3 : decode cX6_food 3 = .ok (.invokespecial 7, 3) := by decide +kernel
theorem dX6_food_6 : decode cX6_food 6 = .ok (.iconst 2, 1) := by decide +kernel
theorem dX6_food_7 : decode cX6_food 7 = .ok (.isub, 1) := by decide +kernel
theorem dX6_food_8 : decode cX6_food 8 = .ok (.invokestatic 11, 3) := by decide +kernel
theorem dX6_food_11 : decode cX6_food 11 = .ok (.ireturn, 1) := by decide +kernel
theorem dX6_danced_0 : decode cX6_danced 0 = .ok (.aload_n 0, 1) := by decide +kernel
theorem dX6_danced_1 : decode cX6_danced 1 = .ok (.iload_n 1, 1) := by decide +kernel
theorem dX6_danced_2 : decode cX6_danced 2 = .ok (.invokespecial 17, 3) := by decide +kernel
theorem dX6_danced_5 : decode cX6_danced 5 = .ok (.iconst 2, 1) := by decide +kernel
theorem dX6_danced_6 : decode cX6_danced 6 = .ok (.idiv, 1) := by decide +kernel
theorem dX6_danced_7 : decode cX6_danced 7 = .ok (.ireturn, 1) := by decide +kernel
theorem dX6_lighterBySecret_0 : decode cX6_lighterBySecret 0 = .ok (.iconst 1, 1) := by decide +kernel
theorem dX6_lighterBySecret_1 : decode cX6_lighterBySecret 1 = .ok (.ireturn, 1) := by decide +kernel
theorem dX6_price_0 : decode cX6_price 0 = .ok (.aload_n 0, 1) := by decide +kernel
theorem dX6_price_1 : decode cX6_price 1 = .ok (.invokespecial 20, 3) := by decide +kernel
theorem dX6_price_4 : decode cX6_price 4 = .ok (.iconst 2, 1) := by decide +kernel
theorem dX6_price_5 : decode cX6_price 5 = .ok (.idiv, 1) := by decide +kernel
theorem dX6_price_6 : decode cX6_price 6 = .ok (.ireturn, 1) := by decide +kernel
theorem dX7_init_0 : decode cX7_init 0 = .ok (.aload_n 0, 1) := by decide +kernel
theorem dX7_init_1 : decode cX7_init 1 = .ok (.invokespecial 3, 3) := by decide +kernel
theorem dX7_init_4 : decode cX7_init 4 = .ok (.aload_n 0, 1) := by decide +kernel
theorem dX7_init_5 : decode cX7_init 5 = .ok (.iload_n 1, 1) := by decide +kernel
theorem dX7_init_6 : decode cX7_init 6 = .ok (.putfield 9, 3) := by decide +kernel
theorem dX7_init_9 : decode cX7_init 9 = .ok (.aload_n 0, 1) := by decide +kernel
theorem dX7_init_10 : decode cX7_init 10 = .ok (.iconst 0, 1) := by decide +kernel
theorem dX7_init_11 : decode cX7_init 11 = .ok (.iload_n 2, 1) := by decide +kernel
theorem dX7_init_12 : decode cX7_init 12 = .ok (.invokestatic 15, 3) := by decide +kernel
theorem dX7_init_15 : decode cX7_init 15 = .ok (.newarray .int, 2) := by decide +kernel
theorem dX7_init_17 : decode cX7_init 17 = .ok (.putfield 21, 3) := by decide +kernel
theorem dX7_init_20 : decode cX7_init 20 = .ok (.return_, 1) := by decide +kernel
theorem dX7_size_0 : decode cX7_size 0 = .ok (.aload_n 0, 1) := by decide +kernel
theorem dX7_size_1 : decode cX7_size 1 = .ok (.getfield 21, 3) := by decide +kernel
theorem dX7_size_4 : decode cX7_size 4 = .ok (.arraylength, 1) := by decide +kernel
theorem dX7_size_5 : decode cX7_size 5 = .ok (.ireturn, 1) := by decide +kernel
theorem dX7_hasPlace_0 : decode cX7_hasPlace 0 = .ok (.iload_n 1, 1) := by decide +kernel
theorem dX7_hasPlace_1 : decode cX7_hasPlace 1 = .ok (.ifCond .lt 16, 3) := by decide +kernel
theorem dX7_hasPlace_4 : decode cX7_hasPlace 4 = .ok (.iload_n 1, 1) := by decide +kernel
theorem dX7_hasPlace_5 : decode cX7_hasPlace 5 = .ok (.aload_n 0, 1) := by decide +kernel
theorem dX7_hasPlace_6 : decode cX7_hasPlace 6 = .ok (.getfield 21, 3) := by decide +kernel
theorem dX7_hasPlace_9 : decode cX7_hasPlace 9 = .ok (.arraylength, 1) := by decide +kernel
theorem dX7_hasPlace_10 : decode cX7_hasPlace 10 = .ok (.if_icmp .ge 7, 3) := by decide +kernel
theorem dX7_hasPlace_13 : decode cX7_hasPlace 13 = .ok (.iconst 1, 1) := by decide +kernel
theorem dX7_hasPlace_14 : decode cX7_hasPlace 14 = .ok (.goto 4, 3) := by decide +kernel
theorem dX7_hasPlace_17 : decode cX7_hasPlace 17 = .ok (.iconst 0, 1) := by decide +kernel
theorem dX7_hasPlace_18 : decode cX7_hasPlace 18 = .ok (.ireturn, 1) := by decide +kernel
theorem dX7_hasPart_0 : decode cX7_hasPart 0 = .ok (.iload_n 1, 1) := by decide +kernel
theorem dX7_hasPart_1 : decode cX7_hasPart 1 = .ok (.ifCond .lt 31, 3) := by decide +kernel
theorem dX7_hasPart_4 : decode cX7_hasPart 4 = .ok (.iload_n 2, 1) := by decide +kernel
theorem dX7_hasPart_5 : decode cX7_hasPart 5 = .ok (.ifCond .lt 27, 3) := by decide +kernel
theorem dX7_hasPart_8 : decode cX7_hasPart 8 = .ok (.iload_n 2, 1) := by decide +kernel
theorem dX7_hasPart_9 : decode cX7_hasPart 9 = .ok (.aload_n 0, 1) := by decide +kernel
theorem dX7_hasPart_10 : decode cX7_hasPart 10 = .ok (.getfield 21, 3) := by decide +kernel
theorem dX7_hasPart_13 : decode cX7_hasPart 13 = .ok (.arraylength, 1) := by decide +kernel
theorem dX7_hasPart_14 : decode cX7_hasPart 14 = .ok (.if_icmp .gt 18, 3) := by decide +kernel
theorem dX7_hasPart_17 : decode cX7_hasPart 17 = .ok (.iload_n 1, 1) := by decide +kernel
theorem dX7_hasPart_18 : decode cX7_hasPart 18 = .ok (.aload_n 0, 1) := by decide +kernel
theorem dX7_hasPart_19 : decode cX7_hasPart 19 = .ok (.getfield 21, 3) := by decide +kernel
theorem dX7_hasPart_22 : decode cX7_hasPart 22 = .ok (.arraylength, 1) := by decide +kernel
theorem dX7_hasPart_23 : decode cX7_hasPart 23 = .ok (.iload_n 2, 1) := by decide +kernel
theorem dX7_hasPart_24 : decode cX7_hasPart 24 = .ok (.isub, 1) := by decide +kernel
theorem dX7_hasPart_25 : decode cX7_hasPart 25 = .ok (.if_icmp .gt 7, 3) := by decide +kernel
theorem dX7_hasPart_28 : decode cX7_hasPart 28 = .ok (.iconst 1, 1) := by decide +kernel
theorem dX7_hasPart_29 : decode cX7_hasPart 29 = .ok (.goto 4, 3) := by decide +kernel
theorem dX7_hasPart_32 : decode cX7_hasPart 32 = .ok (.iconst 0, 1) := by decide +kernel
theorem dX7_hasPart_33 : decode cX7_hasPart 33 = .ok (.ireturn, 1) := by decide +kernel
theorem dX7_at_0 : decode cX7_at 0 = .ok (.aload_n 0, 1) := by decide +kernel
theorem dX7_at_1 : decode cX7_at 1 = .ok (.iload_n 1, 1) := by decide +kernel
theorem dX7_at_2 : decode cX7_at 2 = .ok (.invokevirtual 25, 3) := by decide +kernel
theorem dX7_at_5 : decode cX7_at 5 = .ok (.ifCond .eq 12, 3) := by decide +kernel
theorem dX7_at_8 : decode cX7_at 8 = .ok (.aload_n 0, 1) := by decide +kernel
theorem dX7_at_9 : decode cX7_at 9 = .ok (.getfield 21, 3) := by decide +kernel
theorem dX7_at_12 : decode cX7_at 12 = .ok (.iload_n 1, 1) := by decide +kernel
theorem dX7_at_13 : decode cX7_at 13 = .ok (.iaload, 1) := by decide +kernel
theorem dX7_at_14 : decode cX7_at 14 = .ok (.goto 4, 3) := by decide +kernel
theorem dX7_at_17 : decode cX7_at 17 = .ok (.iconst 0, 1) := by decide +kernel
theorem dX7_at_18 : decode cX7_at 18 = .ok (.ireturn, 1) := by decide +kernel
theorem dX7_set_0 : decode cX7_set 0 = .ok (.aload_n 0, 1) := by decide +kernel
theorem dX7_set_1 : decode cX7_set 1 = .ok (.iload_n 1, 1) := by decide +kernel
theorem dX7_set_2 : decode cX7_set 2 = .ok (.invokevirtual 25, 3) := by decide +kernel
theorem dX7_set_5 : decode cX7_set 5 = .ok (.ifCond .eq 14, 3) := by decide +kernel
theorem dX7_set_8 : decode cX7_set 8 = .ok (.aload_n 0, 1) := by decide +kernel
theorem dX7_set_9 : decode cX7_set 9 = .ok (.getfield 21, 3) := by decide +kernel
theorem dX7_set_12 : decode cX7_set 12 = .ok (.iload_n 1, 1) := by decide +kernel
theorem dX7_set_13 : decode cX7_set 13 = .ok (.aload_n 0, 1) := by decide +kernel
theorem dX7_set_14 : decode cX7_set 14 = .ok (.iload_n 2, 1) := by decide +kernel
theorem dX7_set_15 : decode cX7_set 15 = .ok (.invokevirtual 29, 3) := by decide +kernel
theorem dX7_set_18 : decode cX7_set 18 = .ok (.iastore, 1) := by decide +kernel
theorem dX7_set_19 : decode cX7_set 19 = .ok (.return_, 1) := by decide +kernel
theorem dX7_lowestBits_0 : decode cX7_lowestBits 0 = .ok (.aload_n 0, 1) := by decide +kernel
theorem dX7_lowestBits_1 : decode cX7_lowestBits 1 = .ok (.getfield 9, 3) := by decide +kernel
theorem dX7_lowestBits_4 : decode cX7_lowestBits 4 = .ok (.lookupswitch 34 #[(0, 28), (1, 31)], 28) := by decide +kernel
theorem dX7_lowestBits_32 : decode cX7_lowestBits 32 = .ok (.iload_n 1, 1) := by decide +kernel
theorem dX7_lowestBits_33 : decode cX7_lowestBits 33 = .ok (.i2b, 1) := by decide +kernel
theorem dX7_lowestBits_34 : decode cX7_lowestBits 34 = .ok (.ireturn, 1) := by decide +kernel
theorem dX7_lowestBits_35 : decode cX7_lowestBits 35 = .ok (.iload_n 1, 1) := by decide +kernel
theorem dX7_lowestBits_36 : decode cX7_lowestBits 36 = .ok (.i2s, 1) := by decide +kernel
theorem dX7_lowestBits_37 : decode cX7_lowestBits 37 = .ok (.ireturn, 1) := by decide +kernel
theorem dX7_lowestBits_38 : decode cX7_lowestBits 38 = .ok (.iload_n 1, 1) := by decide +kernel
theorem dX7_lowestBits_39 : decode cX7_lowestBits 39 = .ok (.ireturn, 1) := by decide +kernel
theorem dX7_isSkipped_0 : decode cX7_isSkipped 0 = .ok (.aload_n 0, 1) := by decide +kernel
theorem dX7_isSkipped_1 : decode cX7_isSkipped 1 = .ok (.getfield 9, 3) := by decide +kernel
theorem dX7_isSkipped_4 : decode cX7_isSkipped 4 = .ok (.lookupswitch 61 #[(0, 28), (1, 44)], 28) := by decide +kernel
theorem dX7_isSkipped_32 : decode cX7_isSkipped 32 = .ok (.aload_n 0, 1) := by decide +kernel
theorem dX7_isSkipped_33 : decode cX7_isSkipped 33 = .ok (.iload_n 1, 1) := by decide +kernel
theorem dX7_isSkipped_34 : decode cX7_isSkipped 34 = .ok (.invokevirtual 33, 3) := by decide +kernel
theorem dX7_isSkipped_37 : decode cX7_isSkipped 37 = .ok (.bipush (-128), 2) := by decide +kernel
theorem dX7_isSkipped_39 : decode cX7_isSkipped 39 = .ok (.if_icmp .ne 7, 3) := by decide +kernel
theorem dX7_isSkipped_42 : decode cX7_isSkipped 42 = .ok (.iconst 1, 1) := by decide +kernel
theorem dX7_isSkipped_43 : decode cX7_isSkipped 43 = .ok (.goto 4, 3) := by decide +kernel
theorem dX7_isSkipped_46 : decode cX7_isSkipped 46 = .ok (.iconst 0, 1) := by decide +kernel
theorem dX7_isSkipped_47 : decode cX7_isSkipped 47 = .ok (.ireturn, 1) := by decide +kernel
theorem dX7_isSkipped_48 : decode cX7_isSkipped 48 = .ok (.aload_n 0, 1) := by decide +kernel
theorem dX7_isSkipped_49 : decode cX7_isSkipped 49 = .ok (.iload_n 1, 1) := by decide +kernel
theorem dX7_isSkipped_50 : decode cX7_isSkipped 50 = .ok (.invokevirtual 33, 3) := by decide +kernel
theorem dX7_isSkipped_53 : decode cX7_isSkipped 53 = .ok (.sipush (-32768), 3) := by decide +kernel
theorem dX7_isSkipped_56 : decode cX7_isSkipped 56 = .ok (.if_icmp .ne 7, 3) := by decide +kernel
theorem dX7_isSkipped_59 : decode cX7_isSkipped 59 = .ok (.iconst 1, 1) := by decide +kernel
theorem dX7_isSkipped_60 : decode cX7_isSkipped 60 = .ok (.goto 4, 3) := by decide +kernel
theorem dX7_isSkipped_63 : decode cX7_isSkipped 63 = .ok (.iconst 0, 1) := by decide +kernel
theorem dX7_isSkipped_64 : decode cX7_isSkipped 64 = .ok (.ireturn, 1) := by decide +kernel
theorem dX7_isSkipped_65 : decode cX7_isSkipped 65 = .ok (.aload_n 0, 1) := by decide +kernel
theorem dX7_isSkipped_66 : decode cX7_isSkipped 66 = .ok (.iload_n 1, 1) := by decide +kernel
theorem dX7_isSkipped_67 : decode cX7_isSkipped 67 = .ok (.invokevirtual 33, 3) := by decide +kernel
theorem dX7_isSkipped_70 : decode cX7_isSkipped 70 = .ok (.ldc 36, 2) := by decide +kernel
theorem dX7_isSkipped_72 : decode cX7_isSkipped 72 = .ok (.if_icmp .ne 7, 3) := by decide +kernel
theorem dX7_isSkipped_75 : decode cX7_isSkipped 75 = .ok (.iconst 1, 1) := by decide +kernel
theorem dX7_isSkipped_76 : decode cX7_isSkipped 76 = .ok (.goto 4, 3) := by decide +kernel
theorem dX7_isSkipped_79 : decode cX7_isSkipped 79 = .ok (.iconst 0, 1) := by decide +kernel
theorem dX7_isSkipped_80 : decode cX7_isSkipped 80 = .ok (.ireturn, 1) := by decide +kernel
theorem dX7_take_0 : decode cX7_take 0 = .ok (.aload_n 0, 1) := by decide +kernel
theorem dX7_take_1 : decode cX7_take 1 = .ok (.iload_n 1, 1) := by decide +kernel
theorem dX7_take_2 : decode cX7_take 2 = .ok (.iload 4, 2) := by decide +kernel
theorem dX7_take_4 : decode cX7_take 4 = .ok (.invokevirtual 37, 3) := by decide +kernel
theorem dX7_take_7 : decode cX7_take 7 = .ok (.ifCond .eq 28, 3) := by decide +kernel
theorem dX7_take_10 : decode cX7_take 10 = .ok (.aload_n 2, 1) := by decide +kernel
theorem dX7_take_11 : decode cX7_take 11 = .ok (.iload_n 3, 1) := by decide +kernel
theorem dX7_take_12 : decode cX7_take 12 = .ok (.iload 4, 2) := by decide +kernel
theorem dX7_take_14 : decode cX7_take 14 = .ok (.invokevirtual 37, 3) := by decide +kernel
theorem dX7_take_17 : decode cX7_take 17 = .ok (.ifCond .eq 18, 3) := by decide +kernel
theorem dX7_take_20 : decode cX7_take 20 = .ok (.aload_n 2, 1) := by decide +kernel
theorem dX7_take_21 : decode cX7_take 21 = .ok (.getfield 21, 3) := by decide +kernel
theorem dX7_take_24 : decode cX7_take 24 = .ok (.iload_n 3, 1) := by decide +kernel
theorem dX7_take_25 : decode cX7_take 25 = .ok (.aload_n 0, 1) := by decide +kernel
theorem dX7_take_26 : decode cX7_take 26 = .ok (.getfield 21, 3) := by decide +kernel
theorem dX7_take_29 : decode cX7_take 29 = .ok (.iload_n 1, 1) := by decide +kernel
theorem dX7_take_30 : decode cX7_take 30 = .ok (.iload 4, 2) := by decide +kernel
theorem dX7_take_32 : decode cX7_take 32 = .ok (.invokestatic 41, 3) := by decide +kernel
theorem dX7_take_35 : decode cX7_take 35 = .ok (.return_, 1) := by decide +kernel
theorem dX8_init_0 : decode cX8_init 0 = .ok (.aload_n 0, 1) := by decide +kernel
theorem dX8_init_1 : decode cX8_init 1 = .ok (.iload_n 1, 1) := by decide +kernel
theorem dX8_init_2 : decode cX8_init 2 = .ok (.iload_n 2, 1) := by decide +kernel
theorem dX8_init_3 : decode cX8_init 3 = .ok (.invokespecial 1, 3) := by decide +kernel
theorem dX8_init_6 : decode cX8_init 6 = .ok (.return_, 1) := by decide +kernel
theorem dX8_danced_0 : decode cX8_danced 0 = .ok (.aload_n 0, 1) := by decide +kernel
theorem dX8_danced_1 : decode cX8_danced 1 = .ok (.iload_n 1, 1) := by decide +kernel
theorem dX8_danced_2 : decode cX8_danced 2 = .ok (.invokespecial 7, 3) := by decide +kernel
theorem dX8_danced_5 : decode cX8_danced 5 = .ok (.iload_n 1, 1) := by decide +kernel
theorem dX8_danced_6 : decode cX8_danced 6 = .ok (.iadd, 1) := by decide +kernel
theorem dX8_danced_7 : decode cX8_danced 7 = .ok (.ireturn, 1) := by decide +kernel
theorem dX8_price_0 : decode cX8_price 0 = .ok (.aload_n 0, 1) := by decide +kernel
theorem dX8_price_1 : decode cX8_price 1 = .ok (.invokespecial 11, 3) := by decide +kernel
theorem dX8_price_4 : decode cX8_price 4 = .ok (.iconst 1, 1) := by decide +kernel
theorem dX8_price_5 : decode cX8_price 5 = .ok (.isub, 1) := by decide +kernel
theorem dX8_price_6 : decode cX8_price 6 = .ok (.ireturn, 1) := by decide +kernel
theorem dX9_init_0 : decode cX9_init 0 = .ok (.aload_n 0, 1) := by decide +kernel
theorem dX9_init_1 : decode cX9_init 1 = .ok (.iload_n 1, 1) := by decide +kernel
theorem dX9_init_2 : decode cX9_init 2 = .ok (.iload_n 2, 1) := by decide +kernel
theorem dX9_init_3 : decode cX9_init 3 = .ok (.invokespecial 1, 3) := by decide +kernel
theorem dX9_init_6 : decode cX9_init 6 = .ok (.return_, 1) := by decide +kernel
theorem dX9_rings_0 : decode cX9_rings 0 = .ok (.aload_n 0, 1) := by decide +kernel
theorem dX9_rings_1 : decode cX9_rings 1 = .ok (.getfield 7, 3) := by decide +kernel
theorem dX9_rings_4 : decode cX9_rings 4 = .ok (.iconst 2, 1) := by decide +kernel
theorem dX9_rings_5 : decode cX9_rings 5 = .ok (.idiv, 1) := by decide +kernel
theorem dX9_rings_6 : decode cX9_rings 6 = .ok (.ireturn, 1) := by decide +kernel
theorem dX9_price_0 : decode cX9_price 0 = .ok (.aload_n 0, 1) := by decide +kernel
theorem dX9_price_1 : decode cX9_price 1 = .ok (.invokespecial 13, 3) := by decide +kernel
theorem dX9_price_4 : decode cX9_price 4 = .ok (.iconst 3, 1) := by decide +kernel
theorem dX9_price_5 : decode cX9_price 5 = .ok (.iadd, 1) := by decide +kernel
theorem dX9_price_6 : decode cX9_price 6 = .ok (.ireturn, 1) := by decide +kernel
theorem dX9_fail_0 : decode cX9_fail 0 = .ok (.aload_n 0, 1) := by decide +kernel
theorem dX9_fail_1 : decode cX9_fail 1 = .ok (.getfield 7, 3) := by decide +kernel
theorem dX9_fail_4 : decode cX9_fail 4 = .ok (.ifCond .eq 13, 3) := by decide +kernel
theorem dX9_fail_7 : decode cX9_fail 7 = .ok (.new 17, 3) := by decide +kernel
theorem dX9_fail_10 : decode cX9_fail 10 = .ok (.dup, 1) := by decide +kernel
theorem dX9_fail_11 : decode cX9_fail 11 = .ok (.ldc 19, 2) := by decide +kernel
theorem dX9_fail_13 : decode cX9_fail 13 = .ok (.invokespecial 21, 3) := by decide +kernel
theorem dX9_fail_16 : decode cX9_fail 16 = .ok (.athrow, 1) := by decide +kernel
theorem dX9_fail_17 : decode cX9_fail 17 = .ok (.return_, 1) := by decide +kernel
theorem dX10_init_0 : decode cX10_init 0 = .ok (.aload_n 0, 1) := by decide +kernel
theorem dX10_init_1 : decode cX10_init 1 = .ok (.invokespecial 3, 3) := by decide +kernel
theorem dX10_init_4 : decode cX10_init 4 = .ok (.aload_n 0, 1) := by decide +kernel
theorem dX10_init_5 : decode cX10_init 5 = .ok (.aload_n 1, 1) := by decide +kernel
theorem dX10_init_6 : decode cX10_init 6 = .ok (.putfield 9, 3) := by decide +kernel
theorem dX10_init_9 : decode cX10_init 9 = .ok (.return_, 1) := by decide +kernel
theorem dX10_firstFlaw_0 : decode cX10_firstFlaw 0 = .ok (.aload_n 0, 1) := by decide +kernel
theorem dX10_firstFlaw_1 : decode cX10_firstFlaw 1 = .ok (.getfield 9, 3) := by decide +kernel
theorem dX10_firstFlaw_4 : decode cX10_firstFlaw 4 = .ok (.invokevirtual 15, 3) := by decide +kernel
theorem dX10_firstFlaw_7 : decode cX10_firstFlaw 7 = .ok (.ifCond .ne 5, 3) := by decide +kernel
theorem dX10_firstFlaw_10 : decode cX10_firstFlaw 10 = .ok (.iconst 0, 1) := by decide +kernel
theorem dX10_firstFlaw_11 : decode cX10_firstFlaw 11 = .ok (.ireturn, 1) := by decide +kernel
theorem dX10_firstFlaw_12 : decode cX10_firstFlaw 12 = .ok (.iconst 0, 1) := by decide +kernel
theorem dX10_firstFlaw_13 : decode cX10_firstFlaw 13 = .ok (.istore_n 1, 1) := by decide +kernel
theorem dX10_firstFlaw_14 : decode cX10_firstFlaw 14 = .ok (.iload_n 1, 1) := by decide +kernel
theorem dX10_firstFlaw_15 : decode cX10_firstFlaw 15 = .ok (.aload_n 0, 1) := by decide +kernel
theorem dX10_firstFlaw_16 : decode cX10_firstFlaw 16 = .ok (.getfield 9, 3) := by decide +kernel
theorem dX10_firstFlaw_19 : decode cX10_firstFlaw 19 = .ok (.invokevirtual 15, 3) := by decide +kernel
theorem dX10_firstFlaw_22 : decode cX10_firstFlaw 22 = .ok (.if_icmp .ge 26, 3) := by decide +kernel
theorem dX10_firstFlaw_25 : decode cX10_firstFlaw 25 = .ok (.aload_n 0, 1) := by decide +kernel
theorem dX10_firstFlaw_26 : decode cX10_firstFlaw 26 = .ok (.iload_n 1, 1) := by decide +kernel
theorem dX10_firstFlaw_27 : decode cX10_firstFlaw 27 = .ok (.invokevirtual 21, 3) := by decide +kernel
theorem dX10_firstFlaw_30 : decode cX10_firstFlaw 30 = .ok (.istore_n 2, 1) := by decide +kernel
theorem dX10_firstFlaw_31 : decode cX10_firstFlaw 31 = .ok (.iload_n 2, 1) := by decide +kernel
theorem dX10_firstFlaw_32 : decode cX10_firstFlaw 32 = .ok (.ifCond .lt 5, 3) := by decide +kernel
theorem dX10_firstFlaw_35 : decode cX10_firstFlaw 35 = .ok (.iload_n 2, 1) := by decide +kernel
theorem dX10_firstFlaw_36 : decode cX10_firstFlaw 36 = .ok (.ireturn, 1) := by decide +kernel
theorem dX10_firstFlaw_37 : decode cX10_firstFlaw 37 = .ok (.iload_n 1, 1) := by decide +kernel
theorem dX10_firstFlaw_38 : decode cX10_firstFlaw 38 = .ok (.aload_n 0, 1) := by decide +kernel
theorem dX10_firstFlaw_39 : decode cX10_firstFlaw 39 = .ok (.iload_n 1, 1) := by decide +kernel
theorem dX10_firstFlaw_40 : decode cX10_firstFlaw 40 = .ok (.invokevirtual 25, 3) := by decide +kernel
theorem dX10_firstFlaw_43 : decode cX10_firstFlaw 43 = .ok (.iadd, 1) := by decide +kernel
theorem dX10_firstFlaw_44 : decode cX10_firstFlaw 44 = .ok (.istore_n 1, 1) := by decide +kernel
theorem dX10_firstFlaw_45 : decode cX10_firstFlaw 45 = .ok (.goto (-31), 3) := by decide +kernel
theorem dX10_firstFlaw_48 : decode cX10_firstFlaw 48 = .ok (.iconst (-1), 1) := by decide +kernel
theorem dX10_firstFlaw_49 : decode cX10_firstFlaw 49 = .ok (.ireturn, 1) := by decide +kernel
theorem dX10_flawInStatement_0 : decode cX10_flawInStatement 0 = .ok (.aload_n 0, 1) := by decide +kernel
theorem dX10_flawInStatement_1 : decode cX10_flawInStatement 1 = .ok (.getfield 9, 3) := by decide +kernel
theorem dX10_flawInStatement_4 : decode cX10_flawInStatement 4 = .ok (.iload_n 1, 1) := by decide +kernel
theorem dX10_flawInStatement_5 : decode cX10_flawInStatement 5 = .ok (.invokevirtual 28, 3) := by decide +kernel
theorem dX10_flawInStatement_8 : decode cX10_flawInStatement 8 = .ok (.invokestatic 31, 3) := by decide +kernel
theorem dX10_flawInStatement_11 : decode cX10_flawInStatement 11 = .ok (.ifCond .ne 5, 3) := by decide +kernel
theorem dX10_flawInStatement_14 : decode cX10_flawInStatement 14 = .ok (.iload_n 1, 1) := by decide +kernel
theorem dX10_flawInStatement_15 : decode cX10_flawInStatement 15 = .ok (.ireturn, 1) := by decide +kernel
theorem dX10_flawInStatement_16 : decode cX10_flawInStatement 16 = .ok (.iload_n 1, 1) := by decide +kernel
theorem dX10_flawInStatement_17 : decode cX10_flawInStatement 17 = .ok (.aload_n 0, 1) := by decide +kernel
theorem dX10_flawInStatement_18 : decode cX10_flawInStatement 18 = .ok (.iload_n 1, 1) := by decide +kernel
theorem dX10_flawInStatement_19 : decode cX10_flawInStatement 19 = .ok (.invokevirtual 25, 3) := by decide +kernel
theorem dX10_flawInStatement_22 : decode cX10_flawInStatement 22 = .ok (.iadd, 1) := by decide +kernel
theorem dX10_flawInStatement_23 : decode cX10_flawInStatement 23 = .ok (.iconst 1, 1) := by decide +kernel
theorem dX10_flawInStatement_24 : decode cX10_flawInStatement 24 = .ok (.isub, 1) := by decide +kernel
theorem dX10_flawInStatement_25 : decode cX10_flawInStatement 25 = .ok (.istore_n 2, 1) := by decide +kernel
theorem dX10_flawInStatement_26 : decode cX10_flawInStatement 26 = .ok (.iload_n 1, 1) := by decide +kernel
theorem dX10_flawInStatement_27 : decode cX10_flawInStatement 27 = .ok (.iconst 1, 1) := by decide +kernel
theorem dX10_flawInStatement_28 : decode cX10_flawInStatement 28 = .ok (.iadd, 1) := by decide +kernel
theorem dX10_flawInStatement_29 : decode cX10_flawInStatement 29 = .ok (.istore_n 3, 1) := by decide +kernel
theorem dX10_flawInStatement_30 : decode cX10_flawInStatement 30 = .ok (.iload_n 3, 1) := by decide +kernel
theorem dX10_flawInStatement_31 : decode cX10_flawInStatement 31 = .ok (.iload_n 2, 1) := by decide +kernel
theorem dX10_flawInStatement_32 : decode cX10_flawInStatement 32 = .ok (.if_icmp .gt 71, 3) := by decide +kernel
theorem dX10_flawInStatement_35 : decode cX10_flawInStatement 35 = .ok (.iload_n 3, 1) := by decide +kernel
theorem dX10_flawInStatement_36 : decode cX10_flawInStatement 36 = .ok (.aload_n 0, 1) := by decide +kernel
theorem dX10_flawInStatement_37 : decode cX10_flawInStatement 37 = .ok (.getfield 9, 3) := by decide +kernel
theorem dX10_flawInStatement_40 : decode cX10_flawInStatement 40 = .ok (.invokevirtual 15, 3) := by decide +kernel
theorem dX10_flawInStatement_43 : decode cX10_flawInStatement 43 = .ok (.if_icmp .lt 11, 3) := by decide +kernel
theorem dX10_flawInStatement_46 : decode cX10_flawInStatement 46 = .ok (.aload_n 0, 1) := by decide +kernel
theorem dX10_flawInStatement_47 : decode cX10_flawInStatement 47 = .ok (.getfield 9, 3) := by decide +kernel
theorem dX10_flawInStatement_50 : decode cX10_flawInStatement 50 = .ok (.invokevirtual 15, 3) := by decide +kernel
theorem dX10_flawInStatement_53 : decode cX10_flawInStatement 53 = .ok (.ireturn, 1) := by decide +kernel
theorem dX10_flawInStatement_54 : decode cX10_flawInStatement 54 = .ok (.iload_n 3, 1) := by decide +kernel
theorem dX10_flawInStatement_55 : decode cX10_flawInStatement 55 = .ok (.iload_n 2, 1) := by decide +kernel
theorem dX10_flawInStatement_56 : decode cX10_flawInStatement 56 = .ok (.if_icmp .ne 24, 3) := by decide +kernel
theorem dX10_flawInStatement_59 : decode cX10_flawInStatement 59 = .ok (.aload_n 0, 1) := by decide +kernel
theorem dX10_flawInStatement_60 : decode cX10_flawInStatement 60 = .ok (.getfield 9, 3) := by decide +kernel
theorem dX10_flawInStatement_63 : decode cX10_flawInStatement 63 = .ok (.iload_n 3, 1) := by decide +kernel
theorem dX10_flawInStatement_64 : decode cX10_flawInStatement 64 = .ok (.invokevirtual 28, 3) := by decide +kernel
theorem dX10_flawInStatement_67 : decode cX10_flawInStatement 67 = .ok (.bipush 59, 2) := by decide +kernel
theorem dX10_flawInStatement_69 : decode cX10_flawInStatement 69 = .ok (.if_icmp .ne 7, 3) := by decide +kernel
theorem dX10_flawInStatement_72 : decode cX10_flawInStatement 72 = .ok (.iconst 1, 1) := by decide +kernel
theorem dX10_flawInStatement_73 : decode cX10_flawInStatement 73 = .ok (.goto 15, 3) := by decide +kernel
theorem dX10_flawInStatement_76 : decode cX10_flawInStatement 76 = .ok (.iconst 0, 1) := by decide +kernel
theorem dX10_flawInStatement_77 : decode cX10_flawInStatement 77 = .ok (.goto 11, 3) := by decide +kernel
theorem dX10_flawInStatement_80 : decode cX10_flawInStatement 80 = .ok (.aload_n 0, 1) := by decide +kernel
theorem dX10_flawInStatement_81 : decode cX10_flawInStatement 81 = .ok (.iload_n 3, 1) := by decide +kernel
theorem dX10_flawInStatement_82 : decode cX10_flawInStatement 82 = .ok (.invokevirtual 34, 3) := by decide +kernel
theorem dX10_flawInStatement_85 : decode cX10_flawInStatement 85 = .ok (.invokestatic 37, 3) := by decide +kernel
theorem dX10_flawInStatement_88 : decode cX10_flawInStatement 88 = .ok (.istore 4, 2) := by decide +kernel
theorem dX10_flawInStatement_90 : decode cX10_flawInStatement 90 = .ok (.iload 4, 2) := by decide +kernel
theorem dX10_flawInStatement_92 : decode cX10_flawInStatement 92 = .ok (.ifCond .ne 5, 3) := by decide +kernel
theorem dX10_flawInStatement_95 : decode cX10_flawInStatement 95 = .ok (.iload_n 3, 1) := by decide +kernel
theorem dX10_flawInStatement_96 : decode cX10_flawInStatement 96 = .ok (.ireturn, 1) := by decide +kernel
theorem dX10_flawInStatement_97 : decode cX10_flawInStatement 97 = .ok (.iinc 3 1, 3) := by decide +kernel
theorem dX10_flawInStatement_100 : decode cX10_flawInStatement 100 = .ok (.goto (-70), 3) := by decide +kernel
theorem dX10_flawInStatement_103 : decode cX10_flawInStatement 103 = .ok (.iconst (-1), 1) := by decide +kernel
theorem dX10_flawInStatement_104 : decode cX10_flawInStatement 104 = .ok (.ireturn, 1) := by decide +kernel
theorem dX10_lengthAt_0 : decode cX10_lengthAt 0 = .ok (.iconst 2, 1) := by decide +kernel
theorem dX10_lengthAt_1 : decode cX10_lengthAt 1 = .ok (.aload_n 0, 1) := by decide +kernel
theorem dX10_lengthAt_2 : decode cX10_lengthAt 2 = .ok (.getfield 9, 3) := by decide +kernel
theorem dX10_lengthAt_5 : decode cX10_lengthAt 5 = .ok (.iload_n 1, 1) := by decide +kernel
theorem dX10_lengthAt_6 : decode cX10_lengthAt 6 = .ok (.invokevirtual 28, 3) := by decide +kernel
theorem dX10_lengthAt_9 : decode cX10_lengthAt 9 = .ok (.invokestatic 31, 3) := by decide +kernel
theorem dX10_lengthAt_12 : decode cX10_lengthAt 12 = .ok (.iadd, 1) := by decide +kernel
theorem dX10_lengthAt_13 : decode cX10_lengthAt 13 = .ok (.ireturn, 1) := by decide +kernel
theorem dX10_digitsBehind_0 : decode cX10_digitsBehind 0 = .ok (.iload_n 0, 1) := by decide +kernel
theorem dX10_digitsBehind_1 : decode cX10_digitsBehind 1 = .ok (.tableswitch 103 98 116 #[95, 103, 99, 103, 103, 91, 103, 103, 103, 103, 93, 103, 103, 103, 103, 103, 103, 97, 101], 91) := by decide +kernel
theorem dX10_digitsBehind_92 : decode cX10_digitsBehind 92 = .ok (.iconst 4, 1) := by decide +kernel
theorem dX10_digitsBehind_93 : decode cX10_digitsBehind 93 = .ok (.ireturn, 1) := by decide +kernel
theorem dX10_digitsBehind_94 : decode cX10_digitsBehind 94 = .ok (.iconst 4, 1) := by decide +kernel
theorem dX10_digitsBehind_95 : decode cX10_digitsBehind 95 = .ok (.ireturn, 1) := by decide +kernel
theorem dX10_digitsBehind_96 : decode cX10_digitsBehind 96 = .ok (.iconst 2, 1) := by decide +kernel
theorem dX10_digitsBehind_97 : decode cX10_digitsBehind 97 = .ok (.ireturn, 1) := by decide +kernel
theorem dX10_digitsBehind_98 : decode cX10_digitsBehind 98 = .ok (.iconst 2, 1) := by decide +kernel
theorem dX10_digitsBehind_99 : decode cX10_digitsBehind 99 = .ok (.ireturn, 1) := by decide +kernel
theorem dX10_digitsBehind_100 : decode cX10_digitsBehind 100 = .ok (.iconst 2, 1) := by decide +kernel
theorem dX10_digitsBehind_101 : decode cX10_digitsBehind 101 = .ok (.ireturn, 1) := by decide +kernel
theorem dX10_digitsBehind_102 : decode cX10_digitsBehind 102 = .ok (.iconst 1, 1) := by decide +kernel
theorem dX10_digitsBehind_103 : decode cX10_digitsBehind 103 = .ok (.ireturn, 1) := by decide +kernel
theorem dX10_digitsBehind_104 : decode cX10_digitsBehind 104 = .ok (.iconst 0, 1) := by decide +kernel
theorem dX10_digitsBehind_105 : decode cX10_digitsBehind 105 = .ok (.ireturn, 1) := by decide +kernel
theorem dX10_digit_0 : decode cX10_digit 0 = .ok (.aload_n 0, 1) := by decide +kernel
theorem dX10_digit_1 : decode cX10_digit 1 = .ok (.getfield 9, 3) := by decide +kernel
theorem dX10_digit_4 : decode cX10_digit 4 = .ok (.iload_n 1, 1) := by decide +kernel
theorem dX10_digit_5 : decode cX10_digit 5 = .ok (.invokevirtual 28, 3) := by decide +kernel
theorem dX10_digit_8 : decode cX10_digit 8 = .ok (.bipush 48, 2) := by decide +kernel
theorem dX10_digit_10 : decode cX10_digit 10 = .ok (.isub, 1) := by decide +kernel
theorem dX10_digit_11 : decode cX10_digit 11 = .ok (.ireturn, 1) := by decide +kernel
theorem dX10_twoDigits_0 : decode cX10_twoDigits 0 = .ok (.bipush 10, 2) := by decide +kernel
theorem dX10_twoDigits_2 : decode cX10_twoDigits 2 = .ok (.aload_n 0, 1) := by decide +kernel
theorem dX10_twoDigits_3 : decode cX10_twoDigits 3 = .ok (.iload_n 1, 1) := by decide +kernel
theorem dX10_twoDigits_4 : decode cX10_twoDigits 4 = .ok (.invokevirtual 34, 3) := by decide +kernel
theorem dX10_twoDigits_7 : decode cX10_twoDigits 7 = .ok (.imul, 1) := by decide +kernel
theorem dX10_twoDigits_8 : decode cX10_twoDigits 8 = .ok (.aload_n 0, 1) := by decide +kernel
theorem dX10_twoDigits_9 : decode cX10_twoDigits 9 = .ok (.iload_n 1, 1) := by decide +kernel
theorem dX10_twoDigits_10 : decode cX10_twoDigits 10 = .ok (.iconst 1, 1) := by decide +kernel
theorem dX10_twoDigits_11 : decode cX10_twoDigits 11 = .ok (.iadd, 1) := by decide +kernel
theorem dX10_twoDigits_12 : decode cX10_twoDigits 12 = .ok (.invokevirtual 34, 3) := by decide +kernel
theorem dX10_twoDigits_15 : decode cX10_twoDigits 15 = .ok (.iadd, 1) := by decide +kernel
theorem dX10_twoDigits_16 : decode cX10_twoDigits 16 = .ok (.ireturn, 1) := by decide +kernel
theorem dX10_follow_0 : decode cX10_follow 0 = .ok (.aload_n 0, 1) := by decide +kernel
theorem dX10_follow_1 : decode cX10_follow 1 = .ok (.iload_n 2, 1) := by decide +kernel
theorem dX10_follow_2 : decode cX10_follow 2 = .ok (.iconst 1, 1) := by decide +kernel
theorem dX10_follow_3 : decode cX10_follow 3 = .ok (.iadd, 1) := by decide +kernel
theorem dX10_follow_4 : decode cX10_follow 4 = .ok (.invokevirtual 34, 3) := by decide +kernel
theorem dX10_follow_7 : decode cX10_follow 7 = .ok (.istore_n 3, 1) := by decide +kernel
theorem dX10_follow_8 : decode cX10_follow 8 = .ok (.aload_n 0, 1) := by decide +kernel
theorem dX10_follow_9 : decode cX10_follow 9 = .ok (.iload_n 2, 1) := by decide +kernel
theorem dX10_follow_10 : decode cX10_follow 10 = .ok (.iconst 2, 1) := by decide +kernel
theorem dX10_follow_11 : decode cX10_follow 11 = .ok (.iadd, 1) := by decide +kernel
theorem dX10_follow_12 : decode cX10_follow 12 = .ok (.invokevirtual 34, 3) := by decide +kernel
theorem dX10_follow_15 : decode cX10_follow 15 = .ok (.istore 4, 2) := by decide +kernel
theorem dX10_follow_17 : decode cX10_follow 17 = .ok (.aload_n 0, 1) := by decide +kernel
theorem dX10_follow_18 : decode cX10_follow 18 = .ok (.getfield 9, 3) := by decide +kernel
theorem dX10_follow_21 : decode cX10_follow 21 = .ok (.iload_n 2, 1) := by decide +kernel
theorem dX10_follow_22 : decode cX10_follow 22 = .ok (.invokevirtual 28, 3) := by decide +kernel
theorem dX10_follow_25 : decode cX10_follow 25 = .ok (.tableswitch 155 98 116 #[106, 155, 143, 155, 155, 91, 155, 155, 155, 155, 120, 155, 155, 155, 155, 155, 155, 135, 114], 91) := by decide +kernel
theorem dX10_follow_116 : decode cX10_follow 116 = .ok (.aload_n 1, 1) := by decide +kernel
theorem dX10_follow_117 : decode cX10_follow 117 = .ok (.iload_n 3, 1) := by decide +kernel
theorem dX10_follow_118 : decode cX10_follow 118 = .ok (.iload 4, 2) := by decide +kernel
theorem dX10_follow_120 : decode cX10_follow 120 = .ok (.aload_n 0, 1) := by decide +kernel
theorem dX10_follow_121 : decode cX10_follow 121 = .ok (.iload_n 2, 1) := by decide +kernel
theorem dX10_follow_122 : decode cX10_follow 122 = .ok (.iconst 3, 1) := by decide +kernel
theorem dX10_follow_123 : decode cX10_follow 123 = .ok (.iadd, 1) := by decide +kernel
theorem dX10_follow_124 : decode cX10_follow 124 = .ok (.invokevirtual 41, 3) := by decide +kernel
theorem dX10_follow_127 : decode cX10_follow 127 = .ok (.invokestatic 44, 3) := by decide +kernel
theorem dX10_follow_130 : decode cX10_follow 130 = .ok (.ireturn, 1) := by decide +kernel
theorem dX10_follow_131 : decode cX10_follow 131 = .ok (.aload_n 1, 1) := by decide +kernel
theorem dX10_follow_132 : decode cX10_follow 132 = .ok (.iload_n 3, 1) := by decide +kernel
theorem dX10_follow_133 : decode cX10_follow 133 = .ok (.iload 4, 2) := by decide +kernel
theorem dX10_follow_135 : decode cX10_follow 135 = .ok (.invokestatic 48, 3) := by decide +kernel
theorem dX10_follow_138 : decode cX10_follow 138 = .ok (.ireturn, 1) := by decide +kernel
theorem dX10_follow_139 : decode cX10_follow 139 = .ok (.aload_n 1, 1) := by decide +kernel
theorem dX10_follow_140 : decode cX10_follow 140 = .ok (.iload_n 3, 1) := by decide +kernel
theorem dX10_follow_141 : decode cX10_follow 141 = .ok (.invokestatic 52, 3) := by decide +kernel
theorem dX10_follow_144 : decode cX10_follow 144 = .ok (.ireturn, 1) := by decide +kernel
theorem dX10_follow_145 : decode cX10_follow 145 = .ok (.aload_n 1, 1) := by decide +kernel
theorem dX10_follow_146 : decode cX10_follow 146 = .ok (.iload_n 3, 1) := by decide +kernel
theorem dX10_follow_147 : decode cX10_follow 147 = .ok (.iload 4, 2) := by decide +kernel
theorem dX10_follow_149 : decode cX10_follow 149 = .ok (.aload_n 0, 1) := by decide +kernel
theorem dX10_follow_150 : decode cX10_follow 150 = .ok (.iload_n 2, 1) := by decide +kernel
theorem dX10_follow_151 : decode cX10_follow 151 = .ok (.iconst 3, 1) := by decide +kernel
theorem dX10_follow_152 : decode cX10_follow 152 = .ok (.iadd, 1) := by decide +kernel
theorem dX10_follow_153 : decode cX10_follow 153 = .ok (.invokevirtual 41, 3) := by decide +kernel
theorem dX10_follow_156 : decode cX10_follow 156 = .ok (.invokestatic 56, 3) := by decide +kernel
theorem dX10_follow_159 : decode cX10_follow 159 = .ok (.ireturn, 1) := by decide +kernel
theorem dX10_follow_160 : decode cX10_follow 160 = .ok (.aload_n 1, 1) := by decide +kernel
theorem dX10_follow_161 : decode cX10_follow 161 = .ok (.iload_n 3, 1) := by decide +kernel
theorem dX10_follow_162 : decode cX10_follow 162 = .ok (.iload 4, 2) := by decide +kernel
theorem dX10_follow_164 : decode cX10_follow 164 = .ok (.invokestatic 59, 3) := by decide +kernel
theorem dX10_follow_167 : decode cX10_follow 167 = .ok (.ireturn, 1) := by decide +kernel
theorem dX10_follow_168 : decode cX10_follow 168 = .ok (.aload_n 1, 1) := by decide +kernel
theorem dX10_follow_169 : decode cX10_follow 169 = .ok (.aload_n 0, 1) := by decide +kernel
theorem dX10_follow_170 : decode cX10_follow 170 = .ok (.iload_n 2, 1) := by decide +kernel
theorem dX10_follow_171 : decode cX10_follow 171 = .ok (.iconst 1, 1) := by decide +kernel
theorem dX10_follow_172 : decode cX10_follow 172 = .ok (.iadd, 1) := by decide +kernel
theorem dX10_follow_173 : decode cX10_follow 173 = .ok (.invokevirtual 41, 3) := by decide +kernel
theorem dX10_follow_176 : decode cX10_follow 176 = .ok (.invokestatic 62, 3) := by decide +kernel
theorem dX10_follow_179 : decode cX10_follow 179 = .ok (.ireturn, 1) := by decide +kernel
theorem dX10_follow_180 : decode cX10_follow 180 = .ok (.iconst 0, 1) := by decide +kernel
theorem dX10_follow_181 : decode cX10_follow 181 = .ok (.ireturn, 1) := by decide +kernel
theorem dX10_takeIn_0 : decode cX10_takeIn 0 = .ok (.iload_n 1, 1) := by decide +kernel
theorem dX10_takeIn_1 : decode cX10_takeIn 1 = .ok (.bipush 8, 2) := by decide +kernel
theorem dX10_takeIn_3 : decode cX10_takeIn 3 = .ok (.if_icmp .ge 10, 3) := by decide +kernel
theorem dX10_takeIn_6 : decode cX10_takeIn 6 = .ok (.aload_n 0, 1) := by decide +kernel
theorem dX10_takeIn_7 : decode cX10_takeIn 7 = .ok (.invokevirtual 65, 3) := by decide +kernel
theorem dX10_takeIn_10 : decode cX10_takeIn 10 = .ok (.ifCond .eq 5, 3) := by decide +kernel
theorem dX10_takeIn_13 : decode cX10_takeIn 13 = .ok (.iconst 0, 1) := by decide +kernel
theorem dX10_takeIn_14 : decode cX10_takeIn 14 = .ok (.ireturn, 1) := by decide +kernel
theorem dX10_takeIn_15 : decode cX10_takeIn 15 = .ok (.aload_n 0, 1) := by decide +kernel
theorem dX10_takeIn_16 : decode cX10_takeIn 16 = .ok (.iload_n 1, 1) := by decide +kernel
theorem dX10_takeIn_17 : decode cX10_takeIn 17 = .ok (.iload_n 2, 1) := by decide +kernel
theorem dX10_takeIn_18 : decode cX10_takeIn 18 = .ok (.invokestatic 71, 3) := by decide +kernel
theorem dX10_takeIn_21 : decode cX10_takeIn 21 = .ok (.iload_n 3, 1) := by decide +kernel
theorem dX10_takeIn_22 : decode cX10_takeIn 22 = .ok (.invokevirtual 75, 3) := by decide +kernel
theorem dX10_takeIn_25 : decode cX10_takeIn 25 = .ok (.iconst 1, 1) := by decide +kernel
theorem dX10_takeIn_26 : decode cX10_takeIn 26 = .ok (.ireturn, 1) := by decide +kernel
theorem dX10_setTable_0 : decode cX10_setTable 0 = .ok (.aload_n 0, 1) := by decide +kernel
theorem dX10_setTable_1 : decode cX10_setTable 1 = .ok (.iload_n 1, 1) := by decide +kernel
theorem dX10_setTable_2 : decode cX10_setTable 2 = .ok (.putfield 78, 3) := by decide +kernel
theorem dX10_setTable_5 : decode cX10_setTable 5 = .ok (.aload_n 0, 1) := by decide +kernel
theorem dX10_setTable_6 : decode cX10_setTable 6 = .ok (.iload_n 2, 1) := by decide +kernel
theorem dX10_setTable_7 : decode cX10_setTable 7 = .ok (.putfield 82, 3) := by decide +kernel
theorem dX10_setTable_10 : decode cX10_setTable 10 = .ok (.iconst 1, 1) := by decide +kernel
theorem dX10_setTable_11 : decode cX10_setTable 11 = .ok (.ireturn, 1) := by decide +kernel
theorem dX10_tellSecret_0 : decode cX10_tellSecret 0 = .ok (.aload_n 0, 1) := by decide +kernel
theorem dX10_tellSecret_1 : decode cX10_tellSecret 1 = .ok (.iload_n 1, 1) := by decide +kernel
theorem dX10_tellSecret_2 : decode cX10_tellSecret 2 = .ok (.invokevirtual 85, 3) := by decide +kernel
theorem dX10_tellSecret_5 : decode cX10_tellSecret 5 = .ok (.ifCond .eq 11, 3) := by decide +kernel
theorem dX10_tellSecret_8 : decode cX10_tellSecret 8 = .ok (.aload_n 0, 1) := by decide +kernel
theorem dX10_tellSecret_9 : decode cX10_tellSecret 9 = .ok (.iload_n 1, 1) := by decide +kernel
theorem dX10_tellSecret_10 : decode cX10_tellSecret 10 = .ok (.invokevirtual 88, 3) := by decide +kernel
theorem dX10_tellSecret_13 : decode cX10_tellSecret 13 = .ok (.ifCond .ne 5, 3) := by decide +kernel
theorem dX10_tellSecret_16 : decode cX10_tellSecret 16 = .ok (.iconst 0, 1) := by decide +kernel
theorem dX10_tellSecret_17 : decode cX10_tellSecret 17 = .ok (.ireturn, 1) := by decide +kernel
theorem dX10_tellSecret_18 : decode cX10_tellSecret 18 = .ok (.aload_n 0, 1) := by decide +kernel
theorem dX10_tellSecret_19 : decode cX10_tellSecret 19 = .ok (.iload_n 1, 1) := by decide +kernel
theorem dX10_tellSecret_20 : decode cX10_tellSecret 20 = .ok (.invokevirtual 91, 3) := by decide +kernel
theorem dX10_tellSecret_23 : decode cX10_tellSecret 23 = .ok (.iconst 1, 1) := by decide +kernel
theorem dX10_tellSecret_24 : decode cX10_tellSecret 24 = .ok (.ireturn, 1) := by decide +kernel
theorem dX10_lendPounds_0 : decode cX10_lendPounds 0 = .ok (.aload_n 0, 1) := by decide +kernel
theorem dX10_lendPounds_1 : decode cX10_lendPounds 1 = .ok (.iload_n 1, 1) := by decide +kernel
theorem dX10_lendPounds_2 : decode cX10_lendPounds 2 = .ok (.invokevirtual 85, 3) := by decide +kernel
theorem dX10_lendPounds_5 : decode cX10_lendPounds 5 = .ok (.ifCond .eq 20, 3) := by decide +kernel
theorem dX10_lendPounds_8 : decode cX10_lendPounds 8 = .ok (.aload_n 0, 1) := by decide +kernel
theorem dX10_lendPounds_9 : decode cX10_lendPounds 9 = .ok (.iload_n 2, 1) := by decide +kernel
theorem dX10_lendPounds_10 : decode cX10_lendPounds 10 = .ok (.invokevirtual 85, 3) := by decide +kernel
theorem dX10_lendPounds_13 : decode cX10_lendPounds 13 = .ok (.ifCond .eq 12, 3) := by decide +kernel
theorem dX10_lendPounds_16 : decode cX10_lendPounds 16 = .ok (.iload_n 1, 1) := by decide +kernel
theorem dX10_lendPounds_17 : decode cX10_lendPounds 17 = .ok (.iload_n 2, 1) := by decide +kernel
theorem dX10_lendPounds_18 : decode cX10_lendPounds 18 = .ok (.if_icmp .eq 7, 3) := by decide +kernel
theorem dX10_lendPounds_21 : decode cX10_lendPounds 21 = .ok (.iconst 1, 1) := by decide +kernel
theorem dX10_lendPounds_22 : decode cX10_lendPounds 22 = .ok (.goto 4, 3) := by decide +kernel
theorem dX10_lendPounds_25 : decode cX10_lendPounds 25 = .ok (.iconst 0, 1) := by decide +kernel
theorem dX10_lendPounds_26 : decode cX10_lendPounds 26 = .ok (.istore 4, 2) := by decide +kernel
theorem dX10_lendPounds_28 : decode cX10_lendPounds 28 = .ok (.iload 4, 2) := by decide +kernel
theorem dX10_lendPounds_30 : decode cX10_lendPounds 30 = .ok (.ifCond .eq 24, 3) := by decide +kernel
theorem dX10_lendPounds_33 : decode cX10_lendPounds 33 = .ok (.iload_n 3, 1) := by decide +kernel
theorem dX10_lendPounds_34 : decode cX10_lendPounds 34 = .ok (.iconst 1, 1) := by decide +kernel
theorem dX10_lendPounds_35 : decode cX10_lendPounds 35 = .ok (.if_icmp .lt 19, 3) := by decide +kernel
theorem dX10_lendPounds_38 : decode cX10_lendPounds 38 = .ok (.iload_n 3, 1) := by decide +kernel
theorem dX10_lendPounds_39 : decode cX10_lendPounds 39 = .ok (.bipush 20, 2) := by decide +kernel
theorem dX10_lendPounds_41 : decode cX10_lendPounds 41 = .ok (.if_icmp .gt 13, 3) := by decide +kernel
theorem dX10_lendPounds_44 : decode cX10_lendPounds 44 = .ok (.aload_n 0, 1) := by decide +kernel
theorem dX10_lendPounds_45 : decode cX10_lendPounds 45 = .ok (.iload_n 1, 1) := by decide +kernel
theorem dX10_lendPounds_46 : decode cX10_lendPounds 46 = .ok (.iload_n 2, 1) := by decide +kernel
theorem dX10_lendPounds_47 : decode cX10_lendPounds 47 = .ok (.iload_n 3, 1) := by decide +kernel
theorem dX10_lendPounds_48 : decode cX10_lendPounds 48 = .ok (.invokevirtual 94, 3) := by decide +kernel
theorem dX10_lendPounds_51 : decode cX10_lendPounds 51 = .ok (.ifCond .ne 5, 3) := by decide +kernel
theorem dX10_lendPounds_54 : decode cX10_lendPounds 54 = .ok (.iconst 0, 1) := by decide +kernel
theorem dX10_lendPounds_55 : decode cX10_lendPounds 55 = .ok (.ireturn, 1) := by decide +kernel
theorem dX10_lendPounds_56 : decode cX10_lendPounds 56 = .ok (.aload_n 0, 1) := by decide +kernel
theorem dX10_lendPounds_57 : decode cX10_lendPounds 57 = .ok (.iload_n 1, 1) := by decide +kernel
theorem dX10_lendPounds_58 : decode cX10_lendPounds 58 = .ok (.iload_n 2, 1) := by decide +kernel
theorem dX10_lendPounds_59 : decode cX10_lendPounds 59 = .ok (.iload_n 3, 1) := by decide +kernel
theorem dX10_lendPounds_60 : decode cX10_lendPounds 60 = .ok (.invokevirtual 98, 3) := by decide +kernel
theorem dX10_lendPounds_63 : decode cX10_lendPounds 63 = .ok (.iconst 1, 1) := by decide +kernel
theorem dX10_lendPounds_64 : decode cX10_lendPounds 64 = .ok (.ireturn, 1) := by decide +kernel
theorem dX10_setSecrets_0 : decode cX10_setSecrets 0 = .ok (.aload_n 0, 1) := by decide +kernel
theorem dX10_setSecrets_1 : decode cX10_setSecrets 1 = .ok (.iload_n 1, 1) := by decide +kernel
theorem dX10_setSecrets_2 : decode cX10_setSecrets 2 = .ok (.invokevirtual 85, 3) := by decide +kernel
theorem dX10_setSecrets_5 : decode cX10_setSecrets 5 = .ok (.ifCond .ne 5, 3) := by decide +kernel
theorem dX10_setSecrets_8 : decode cX10_setSecrets 8 = .ok (.iconst 0, 1) := by decide +kernel
theorem dX10_setSecrets_9 : decode cX10_setSecrets 9 = .ok (.ireturn, 1) := by decide +kernel
theorem dX10_setSecrets_10 : decode cX10_setSecrets 10 = .ok (.aload_n 0, 1) := by decide +kernel
theorem dX10_setSecrets_11 : decode cX10_setSecrets 11 = .ok (.getfield 101, 3) := by decide +kernel
theorem dX10_setSecrets_14 : decode cX10_setSecrets 14 = .ok (.iload_n 1, 1) := by decide +kernel
theorem dX10_setSecrets_15 : decode cX10_setSecrets 15 = .ok (.iload_n 2, 1) := by decide +kernel
theorem dX10_setSecrets_16 : decode cX10_setSecrets 16 = .ok (.iastore, 1) := by decide +kernel
theorem dX10_setSecrets_17 : decode cX10_setSecrets 17 = .ok (.iconst 1, 1) := by decide +kernel
theorem dX10_setSecrets_18 : decode cX10_setSecrets 18 = .ok (.ireturn, 1) := by decide +kernel
theorem dX10_passDays_0 : decode cX10_passDays 0 = .ok (.iload_n 1, 1) := by decide +kernel
theorem dX10_passDays_1 : decode cX10_passDays 1 = .ok (.iconst 1, 1) := by decide +kernel
theorem dX10_passDays_2 : decode cX10_passDays 2 = .ok (.if_icmp .lt 21, 3) := by decide +kernel
theorem dX10_passDays_5 : decode cX10_passDays 5 = .ok (.iload_n 1, 1) := by decide +kernel
theorem dX10_passDays_6 : decode cX10_passDays 6 = .ok (.bipush 60, 2) := by decide +kernel
theorem dX10_passDays_8 : decode cX10_passDays 8 = .ok (.if_icmp .gt 15, 3) := by decide +kernel
theorem dX10_passDays_11 : decode cX10_passDays 11 = .ok (.aload_n 0, 1) := by decide +kernel
theorem dX10_passDays_12 : decode cX10_passDays 12 = .ok (.getfield 105, 3) := by decide +kernel
theorem dX10_passDays_15 : decode cX10_passDays 15 = .ok (.iload_n 1, 1) := by decide +kernel
theorem dX10_passDays_16 : decode cX10_passDays 16 = .ok (.iadd, 1) := by decide +kernel
theorem dX10_passDays_17 : decode cX10_passDays 17 = .ok (.sipush 999, 3) := by decide +kernel
theorem dX10_passDays_20 : decode cX10_passDays 20 = .ok (.if_icmp .le 5, 3) := by decide +kernel
theorem dX10_passDays_23 : decode cX10_passDays 23 = .ok (.iconst 0, 1) := by decide +kernel
theorem dX10_passDays_24 : decode cX10_passDays 24 = .ok (.ireturn, 1) := by decide +kernel
theorem dX10_passDays_25 : decode cX10_passDays 25 = .ok (.aload_n 0, 1) := by decide +kernel
theorem dX10_passDays_26 : decode cX10_passDays 26 = .ok (.iload_n 1, 1) := by decide +kernel
theorem dX10_passDays_27 : decode cX10_passDays 27 = .ok (.invokevirtual 108, 3) := by decide +kernel
theorem dX10_passDays_30 : decode cX10_passDays 30 = .ok (.iconst 1, 1) := by decide +kernel
theorem dX10_passDays_31 : decode cX10_passDays 31 = .ok (.ireturn, 1) := by decide +kernel
theorem dJ6_bitCount_0f7a4_0 : decode cJ6_bitCount_0f7a4 0 = .ok (.iload_n 0, 1) := by decide +kernel
theorem dJ6_bitCount_0f7a4_1 : decode cJ6_bitCount_0f7a4 1 = .ok (.iload_n 0, 1) := by decide +kernel
theorem dJ6_bitCount_0f7a4_2 : decode cJ6_bitCount_0f7a4 2 = .ok (.iconst 1, 1) := by decide +kernel
theorem dJ6_bitCount_0f7a4_3 : decode cJ6_bitCount_0f7a4 3 = .ok (.iushr, 1) := by decide +kernel
theorem dJ6_bitCount_0f7a4_4 : decode cJ6_bitCount_0f7a4 4 = .ok (.ldc_w 265, 3) := by decide +kernel
theorem dJ6_bitCount_0f7a4_7 : decode cJ6_bitCount_0f7a4 7 = .ok (.iand, 1) := by decide +kernel
theorem dJ6_bitCount_0f7a4_8 : decode cJ6_bitCount_0f7a4 8 = .ok (.isub, 1) := by decide +kernel
theorem dJ6_bitCount_0f7a4_9 : decode cJ6_bitCount_0f7a4 9 = .ok (.istore_n 0, 1) := by decide +kernel
theorem dJ6_bitCount_0f7a4_10 : decode cJ6_bitCount_0f7a4 10 = .ok (.iload_n 0, 1) := by decide +kernel
theorem dJ6_bitCount_0f7a4_11 : decode cJ6_bitCount_0f7a4 11 = .ok (.ldc_w 266, 3) := by decide +kernel
theorem dJ6_bitCount_0f7a4_14 : decode cJ6_bitCount_0f7a4 14 = .ok (.iand, 1) := by decide +kernel
theorem dJ6_bitCount_0f7a4_15 : decode cJ6_bitCount_0f7a4 15 = .ok (.iload_n 0, 1) := by decide +kernel
theorem dJ6_bitCount_0f7a4_16 : decode cJ6_bitCount_0f7a4 16 = .ok (.iconst 2, 1) := by decide +kernel
theorem dJ6_bitCount_0f7a4_17 : decode cJ6_bitCount_0f7a4 17 = .ok (.iushr, 1) := by decide +kernel
theorem dJ6_bitCount_0f7a4_18 : decode cJ6_bitCount_0f7a4 18 = .ok (.ldc_w 266, 3) := by decide +kernel
theorem dJ6_bitCount_0f7a4_21 : decode cJ6_bitCount_0f7a4 21 = .ok (.iand, 1) := by decide +kernel
theorem dJ6_bitCount_0f7a4_22 : decode cJ6_bitCount_0f7a4 22 = .ok (.iadd, 1) := by decide +kernel
theorem dJ6_bitCount_0f7a4_23 : decode cJ6_bitCount_0f7a4 23 = .ok (.istore_n 0, 1) := by decide +kernel
theorem dJ6_bitCount_0f7a4_24 : decode cJ6_bitCount_0f7a4 24 = .ok (.iload_n 0, 1) := by decide +kernel
theorem dJ6_bitCount_0f7a4_25 : decode cJ6_bitCount_0f7a4 25 = .ok (.iload_n 0, 1) := by decide +kernel
theorem dJ6_bitCount_0f7a4_26 : decode cJ6_bitCount_0f7a4 26 = .ok (.iconst 4, 1) := by decide +kernel
theorem dJ6_bitCount_0f7a4_27 : decode cJ6_bitCount_0f7a4 27 = .ok (.iushr, 1) := by decide +kernel
theorem dJ6_bitCount_0f7a4_28 : decode cJ6_bitCount_0f7a4 28 = .ok (.iadd, 1) := by decide +kernel
theorem dJ6_bitCount_0f7a4_29 : decode cJ6_bitCount_0f7a4 29 = .ok (.ldc_w 267, 3) := by decide +kernel
theorem dJ6_bitCount_0f7a4_32 : decode cJ6_bitCount_0f7a4 32 = .ok (.iand, 1) := by decide +kernel
theorem dJ6_bitCount_0f7a4_33 : decode cJ6_bitCount_0f7a4 33 = .ok (.istore_n 0, 1) := by decide +kernel
theorem dJ6_bitCount_0f7a4_34 : decode cJ6_bitCount_0f7a4 34 = .ok (.iload_n 0, 1) := by decide +kernel
theorem dJ6_bitCount_0f7a4_35 : decode cJ6_bitCount_0f7a4 35 = .ok (.iload_n 0, 1) := by decide +kernel
theorem dJ6_bitCount_0f7a4_36 : decode cJ6_bitCount_0f7a4 36 = .ok (.bipush 8, 2) := by decide +kernel
theorem dJ6_bitCount_0f7a4_38 : decode cJ6_bitCount_0f7a4 38 = .ok (.iushr, 1) := by decide +kernel
theorem dJ6_bitCount_0f7a4_39 : decode cJ6_bitCount_0f7a4 39 = .ok (.iadd, 1) := by decide +kernel
theorem dJ6_bitCount_0f7a4_40 : decode cJ6_bitCount_0f7a4 40 = .ok (.istore_n 0, 1) := by decide +kernel
theorem dJ6_bitCount_0f7a4_41 : decode cJ6_bitCount_0f7a4 41 = .ok (.iload_n 0, 1) := by decide +kernel
theorem dJ6_bitCount_0f7a4_42 : decode cJ6_bitCount_0f7a4 42 = .ok (.iload_n 0, 1) := by decide +kernel
theorem dJ6_bitCount_0f7a4_43 : decode cJ6_bitCount_0f7a4 43 = .ok (.bipush 16, 2) := by decide +kernel
theorem dJ6_bitCount_0f7a4_45 : decode cJ6_bitCount_0f7a4 45 = .ok (.iushr, 1) := by decide +kernel
theorem dJ6_bitCount_0f7a4_46 : decode cJ6_bitCount_0f7a4 46 = .ok (.iadd, 1) := by decide +kernel
theorem dJ6_bitCount_0f7a4_47 : decode cJ6_bitCount_0f7a4 47 = .ok (.istore_n 0, 1) := by decide +kernel
theorem dJ6_bitCount_0f7a4_48 : decode cJ6_bitCount_0f7a4 48 = .ok (.iload_n 0, 1) := by decide +kernel
theorem dJ6_bitCount_0f7a4_49 : decode cJ6_bitCount_0f7a4 49 = .ok (.bipush 63, 2) := by decide +kernel
theorem dJ6_bitCount_0f7a4_51 : decode cJ6_bitCount_0f7a4 51 = .ok (.iand, 1) := by decide +kernel
theorem dJ6_bitCount_0f7a4_52 : decode cJ6_bitCount_0f7a4 52 = .ok (.ireturn, 1) := by decide +kernel
theorem dJ9_max_7cf53_0 : decode cJ9_max_7cf53 0 = .ok (.iload_n 0, 1) := by decide +kernel
theorem dJ9_max_7cf53_1 : decode cJ9_max_7cf53 1 = .ok (.iload_n 1, 1) := by decide +kernel
theorem dJ9_max_7cf53_2 : decode cJ9_max_7cf53 2 = .ok (.if_icmp .lt 7, 3) := by decide +kernel
theorem dJ9_max_7cf53_5 : decode cJ9_max_7cf53 5 = .ok (.iload_n 0, 1) := by decide +kernel
theorem dJ9_max_7cf53_6 : decode cJ9_max_7cf53 6 = .ok (.goto 4, 3) := by decide +kernel
theorem dJ9_max_7cf53_9 : decode cJ9_max_7cf53 9 = .ok (.iload_n 1, 1) := by decide +kernel
theorem dJ9_max_7cf53_10 : decode cJ9_max_7cf53 10 = .ok (.ireturn, 1) := by decide +kernel
theorem dJ9_min_7cf53_0 : decode cJ9_min_7cf53 0 = .ok (.iload_n 0, 1) := by decide +kernel
theorem dJ9_min_7cf53_1 : decode cJ9_min_7cf53 1 = .ok (.iload_n 1, 1) := by decide +kernel
theorem dJ9_min_7cf53_2 : decode cJ9_min_7cf53 2 = .ok (.if_icmp .gt 7, 3) := by decide +kernel
theorem dJ9_min_7cf53_5 : decode cJ9_min_7cf53 5 = .ok (.iload_n 0, 1) := by decide +kernel
theorem dJ9_min_7cf53_6 : decode cJ9_min_7cf53 6 = .ok (.goto 4, 3) := by decide +kernel
theorem dJ9_min_7cf53_9 : decode cJ9_min_7cf53 9 = .ok (.iload_n 1, 1) := by decide +kernel
theorem dJ9_min_7cf53_10 : decode cJ9_min_7cf53 10 = .ok (.ireturn, 1) := by decide +kernel
end
section
theorem dX11_init_0 : decode cX11_init 0 = .ok (.aload_n 0, 1) := by decide +kernel
theorem dX11_init_1 : decode cX11_init 1 = .ok (.invokespecial 1, 3) := by decide +kernel
theorem dX11_init_4 : decode cX11_init 4 = .ok (.aload_n 0, 1) := by decide +kernel
theorem dX11_init_5 : decode cX11_init 5 = .ok (.new 7, 3) := by decide +kernel
theorem dX11_init_8 : decode cX11_init 8 = .ok (.dup, 1) := by decide +kernel
theorem dX11_init_9 : decode cX11_init 9 = .ok (.invokespecial 9, 3) := by decide +kernel
theorem dX11_init_12 : decode cX11_init 12 = .ok (.putfield 10, 3) := by decide +kernel
theorem dX11_init_15 : decode cX11_init 15 = .ok (.aload_n 0, 1) := by decide +kernel
theorem dX11_init_16 : decode cX11_init 16 = .ok (.new 7, 3) := by decide +kernel
theorem dX11_init_19 : decode cX11_init 19 = .ok (.dup, 1) := by decide +kernel
theorem dX11_init_20 : decode cX11_init 20 = .ok (.invokespecial 9, 3) := by decide +kernel
theorem dX11_init_23 : decode cX11_init 23 = .ok (.putfield 16, 3) := by decide +kernel
theorem dX11_init_26 : decode cX11_init 26 = .ok (.aload_n 0, 1) := by decide +kernel
theorem dX11_init_27 : decode cX11_init 27 = .ok (.new 7, 3) := by decide +kernel
theorem dX11_init_30 : decode cX11_init 30 = .ok (.dup, 1) := by decide +kernel
theorem dX11_init_31 : decode cX11_init 31 = .ok (.invokespecial 9, 3) := by decide +kernel
theorem dX11_init_34 : decode cX11_init 34 = .ok (.putfield 19, 3) := by decide +kernel
theorem dX11_init_37 : decode cX11_init 37 = .ok (.aload_n 0, 1) := by decide +kernel
theorem dX11_init_38 : decode cX11_init 38 = .ok (.iconst 0, 1) := by decide +kernel
theorem dX11_init_39 : decode cX11_init 39 = .ok (.putfield 22, 3) := by decide +kernel
theorem dX11_init_42 : decode cX11_init 42 = .ok (.aload_n 0, 1) := by decide +kernel
theorem dX11_init_43 : decode cX11_init 43 = .ok (.bipush 8, 2) := by decide +kernel
theorem dX11_init_45 : decode cX11_init 45 = .ok (.anewarray 26, 3) := by decide +kernel
theorem dX11_init_48 : decode cX11_init 48 = .ok (.putfield 28, 3) := by decide +kernel
theorem dX11_init_51 : decode cX11_init 51 = .ok (.aload_n 0, 1) := by decide +kernel
theorem dX11_init_52 : decode cX11_init 52 = .ok (.bipush 8, 2) := by decide +kernel
theorem dX11_init_54 : decode cX11_init 54 = .ok (.anewarray 32, 3) := by decide +kernel
theorem dX11_init_57 : decode cX11_init 57 = .ok (.putfield 34, 3) := by decide +kernel
theorem dX11_init_60 : decode cX11_init 60 = .ok (.aload_n 0, 1) := by decide +kernel
theorem dX11_init_61 : decode cX11_init 61 = .ok (.bipush 49, 2) := by decide +kernel
theorem dX11_init_63 : decode cX11_init 63 = .ok (.newarray .int, 2) := by decide +kernel
theorem dX11_init_65 : decode cX11_init 65 = .ok (.putfield 38, 3) := by decide +kernel
theorem dX11_init_68 : decode cX11_init 68 = .ok (.aload_n 0, 1) := by decide +kernel
theorem dX11_init_69 : decode cX11_init 69 = .ok (.sipush 128, 3) := by decide +kernel
theorem dX11_init_72 : decode cX11_init 72 = .ok (.newarray .int, 2) := by decide +kernel
theorem dX11_init_74 : decode cX11_init 74 = .ok (.putfield 42, 3) := by decide +kernel
theorem dX11_init_77 : decode cX11_init 77 = .ok (.return_, 1) := by decide +kernel
theorem dX11_house_0 : decode cX11_house 0 = .ok (.iload_n 1, 1) := by decide +kernel
theorem dX11_house_1 : decode cX11_house 1 = .ok (.invokestatic 45, 3) := by decide +kernel
theorem dX11_house_4 : decode cX11_house 4 = .ok (.ifCond .ne 5, 3) := by decide +kernel
theorem dX11_house_7 : decode cX11_house 7 = .ok (.iconst (-1), 1) := by decide +kernel
theorem dX11_house_8 : decode cX11_house 8 = .ok (.ireturn, 1) := by decide +kernel
theorem dX11_house_9 : decode cX11_house 9 = .ok (.aload_n 0, 1) := by decide +kernel
theorem dX11_house_10 : decode cX11_house 10 = .ok (.iload_n 1, 1) := by decide +kernel
theorem dX11_house_11 : decode cX11_house 11 = .ok (.invokevirtual 49, 3) := by decide +kernel
theorem dX11_house_14 : decode cX11_house 14 = .ok (.astore_n 2, 1) := by decide +kernel
theorem dX11_house_15 : decode cX11_house 15 = .ok (.aload_n 2, 1) := by decide +kernel
theorem dX11_house_16 : decode cX11_house 16 = .ok (.ifnonnull 9, 3) := by decide +kernel
theorem dX11_house_19 : decode cX11_house 19 = .ok (.aload_n 0, 1) := by decide +kernel
theorem dX11_house_20 : decode cX11_house 20 = .ok (.iload_n 1, 1) := by decide +kernel
theorem dX11_house_21 : decode cX11_house 21 = .ok (.invokevirtual 53, 3) := by decide +kernel
theorem dX11_house_24 : decode cX11_house 24 = .ok (.ireturn, 1) := by decide +kernel
theorem dX11_house_25 : decode cX11_house 25 = .ok (.aload_n 2, 1) := by decide +kernel
theorem dX11_house_26 : decode cX11_house 26 = .ok (.getfield 57, 3) := by decide +kernel
theorem dX11_house_29 : decode cX11_house 29 = .ok (.ifCond .eq 6, 3) := by decide +kernel
theorem dX11_house_32 : decode cX11_house 32 = .ok (.bipush (-12), 2) := by decide +kernel
theorem dX11_house_34 : decode cX11_house 34 = .ok (.ireturn, 1) := by decide +kernel
theorem dX11_house_35 : decode cX11_house 35 = .ok (.new 61, 3) := by decide +kernel
theorem dX11_house_38 : decode cX11_house 38 = .ok (.dup, 1) := by decide +kernel
theorem dX11_house_39 : decode cX11_house 39 = .ok (.aload_n 2, 1) := by decide +kernel
theorem dX11_house_40 : decode cX11_house 40 = .ok (.invokespecial 63, 3) := by decide +kernel
theorem dX11_house_43 : decode cX11_house 43 = .ok (.astore_n 3, 1) := by decide +kernel
theorem dX11_house_44 : decode cX11_house 44 = .ok (.aload_n 3, 1) := by decide +kernel
theorem dX11_house_45 : decode cX11_house 45 = .ok (.invokevirtual 66, 3) := by decide +kernel
theorem dX11_house_48 : decode cX11_house 48 = .ok (.istore 4, 2) := by decide +kernel
theorem dX11_house_50 : decode cX11_house 50 = .ok (.iload 4, 2) := by decide +kernel
theorem dX11_house_52 : decode cX11_house 52 = .ok (.ifCond .lt 10, 3) := by decide +kernel
theorem dX11_house_55 : decode cX11_house 55 = .ok (.sipush (-1000), 3) := by decide +kernel
theorem dX11_house_58 : decode cX11_house 58 = .ok (.iload 4, 2) := by decide +kernel
theorem dX11_house_60 : decode cX11_house 60 = .ok (.isub, 1) := by decide +kernel
theorem dX11_house_61 : decode cX11_house 61 = .ok (.ireturn, 1) := by decide +kernel
theorem dX11_house_62 : decode cX11_house 62 = .ok (.aload_n 0, 1) := by decide +kernel
theorem dX11_house_63 : decode cX11_house 63 = .ok (.getfield 16, 3) := by decide +kernel
theorem dX11_house_66 : decode cX11_house 66 = .ok (.aload_n 0, 1) := by decide +kernel
theorem dX11_house_67 : decode cX11_house 67 = .ok (.getfield 10, 3) := by decide +kernel
theorem dX11_house_70 : decode cX11_house 70 = .ok (.invokevirtual 70, 3) := by decide +kernel
theorem dX11_house_73 : decode cX11_house 73 = .ok (.iconst 0, 1) := by decide +kernel
theorem dX11_house_74 : decode cX11_house 74 = .ok (.istore 5, 2) := by decide +kernel
theorem dX11_house_76 : decode cX11_house 76 = .ok (.iconst 0, 1) := by decide +kernel
theorem dX11_house_77 : decode cX11_house 77 = .ok (.istore 6, 2) := by decide +kernel
theorem dX11_house_79 : decode cX11_house 79 = .ok (.iload 6, 2) := by decide +kernel
theorem dX11_house_81 : decode cX11_house 81 = .ok (.aload_n 2, 1) := by decide +kernel
theorem dX11_house_82 : decode cX11_house 82 = .ok (.invokevirtual 74, 3) := by decide +kernel
theorem dX11_house_85 : decode cX11_house 85 = .ok (.if_icmp .ge 40, 3) := by decide +kernel
theorem dX11_house_88 : decode cX11_house 88 = .ok (.aload_n 3, 1) := by decide +kernel
theorem dX11_house_89 : decode cX11_house 89 = .ok (.aload_n 0, 1) := by decide +kernel
theorem dX11_house_90 : decode cX11_house 90 = .ok (.getfield 16, 3) := by decide +kernel
theorem dX11_house_93 : decode cX11_house 93 = .ok (.iload 6, 2) := by decide +kernel
theorem dX11_house_95 : decode cX11_house 95 = .ok (.invokevirtual 77, 3) := by decide +kernel
theorem dX11_house_98 : decode cX11_house 98 = .ok (.ifCond .ne 10, 3) := by decide +kernel
theorem dX11_house_101 : decode cX11_house 101 = .ok (.sipush (-2000), 3) := by decide +kernel
theorem dX11_house_104 : decode cX11_house 104 = .ok (.iload 6, 2) := by decide +kernel
theorem dX11_house_106 : decode cX11_house 106 = .ok (.isub, 1) := by decide +kernel
theorem dX11_house_107 : decode cX11_house 107 = .ok (.ireturn, 1) := by decide +kernel
theorem dX11_house_108 : decode cX11_house 108 = .ok (.iinc 5 1, 3) := by decide +kernel
theorem dX11_house_111 : decode cX11_house 111 = .ok (.iload 6, 2) := by decide +kernel
theorem dX11_house_113 : decode cX11_house 113 = .ok (.aload_n 3, 1) := by decide +kernel
theorem dX11_house_114 : decode cX11_house 114 = .ok (.iload 6, 2) := by decide +kernel
theorem dX11_house_116 : decode cX11_house 116 = .ok (.invokevirtual 81, 3) := by decide +kernel
theorem dX11_house_119 : decode cX11_house 119 = .ok (.iadd, 1) := by decide +kernel
theorem dX11_house_120 : decode cX11_house 120 = .ok (.istore 6, 2) := by decide +kernel
theorem dX11_house_122 : decode cX11_house 122 = .ok (.goto (-43), 3) := by decide +kernel
theorem dX11_house_125 : decode cX11_house 125 = .ok (.aload_n 0, 1) := by decide +kernel
theorem dX11_house_126 : decode cX11_house 126 = .ok (.getfield 10, 3) := by decide +kernel
theorem dX11_house_129 : decode cX11_house 129 = .ok (.aload_n 0, 1) := by decide +kernel
theorem dX11_house_130 : decode cX11_house 130 = .ok (.getfield 16, 3) := by decide +kernel
theorem dX11_house_133 : decode cX11_house 133 = .ok (.invokevirtual 70, 3) := by decide +kernel
theorem dX11_house_136 : decode cX11_house 136 = .ok (.iload 5, 2) := by decide +kernel
theorem dX11_house_138 : decode cX11_house 138 = .ok (.ireturn, 1) := by decide +kernel
theorem dX11_guest_0 : decode cX11_guest 0 = .ok (.aload_n 0, 1) := by decide +kernel
theorem dX11_guest_1 : decode cX11_guest 1 = .ok (.getfield 10, 3) := by decide +kernel
theorem dX11_guest_4 : decode cX11_guest 4 = .ok (.iload_n 1, 1) := by decide +kernel
theorem dX11_guest_5 : decode cX11_guest 5 = .ok (.invokevirtual 84, 3) := by decide +kernel
theorem dX11_guest_8 : decode cX11_guest 8 = .ok (.ifCond .ne 5, 3) := by decide +kernel
theorem dX11_guest_11 : decode cX11_guest 11 = .ok (.iconst (-1), 1) := by decide +kernel
theorem dX11_guest_12 : decode cX11_guest 12 = .ok (.ireturn, 1) := by decide +kernel
theorem dX11_guest_13 : decode cX11_guest 13 = .ok (.iload_n 2, 1) := by decide +kernel
theorem dX11_guest_14 : decode cX11_guest 14 = .ok (.tableswitch 159 0 8 #[50, 63, 76, 86, 96, 106, 116, 133, 150], 50) := by decide +kernel
theorem dX11_guest_64 : decode cX11_guest 64 = .ok (.aload_n 0, 1) := by decide +kernel
theorem dX11_guest_65 : decode cX11_guest 65 = .ok (.getfield 10, 3) := by decide +kernel
theorem dX11_guest_68 : decode cX11_guest 68 = .ok (.getfield 87, 3) := by decide +kernel
theorem dX11_guest_71 : decode cX11_guest 71 = .ok (.iload_n 1, 1) := by decide +kernel
theorem dX11_guest_72 : decode cX11_guest 72 = .ok (.aaload, 1) := by decide +kernel
theorem dX11_guest_73 : decode cX11_guest 73 = .ok (.getfield 90, 3) := by decide +kernel
theorem dX11_guest_76 : decode cX11_guest 76 = .ok (.ireturn, 1) := by decide +kernel
theorem dX11_guest_77 : decode cX11_guest 77 = .ok (.aload_n 0, 1) := by decide +kernel
theorem dX11_guest_78 : decode cX11_guest 78 = .ok (.getfield 10, 3) := by decide +kernel
theorem dX11_guest_81 : decode cX11_guest 81 = .ok (.getfield 87, 3) := by decide +kernel
theorem dX11_guest_84 : decode cX11_guest 84 = .ok (.iload_n 1, 1) := by decide +kernel
theorem dX11_guest_85 : decode cX11_guest 85 = .ok (.aaload, 1) := by decide +kernel
theorem dX11_guest_86 : decode cX11_guest 86 = .ok (.getfield 92, 3) := by decide +kernel
theorem dX11_guest_89 : decode cX11_guest 89 = .ok (.ireturn, 1) := by decide +kernel
theorem dX11_guest_90 : decode cX11_guest 90 = .ok (.aload_n 0, 1) := by decide +kernel
theorem dX11_guest_91 : decode cX11_guest 91 = .ok (.getfield 10, 3) := by decide +kernel
theorem dX11_guest_94 : decode cX11_guest 94 = .ok (.getfield 95, 3) := by decide +kernel
theorem dX11_guest_97 : decode cX11_guest 97 = .ok (.iload_n 1, 1) := by decide +kernel
theorem dX11_guest_98 : decode cX11_guest 98 = .ok (.iaload, 1) := by decide +kernel
theorem dX11_guest_99 : decode cX11_guest 99 = .ok (.ireturn, 1) := by decide +kernel
theorem dX11_guest_100 : decode cX11_guest 100 = .ok (.aload_n 0, 1) := by decide +kernel
theorem dX11_guest_101 : decode cX11_guest 101 = .ok (.getfield 10, 3) := by decide +kernel
theorem dX11_guest_104 : decode cX11_guest 104 = .ok (.getfield 98, 3) := by decide +kernel
theorem dX11_guest_107 : decode cX11_guest 107 = .ok (.iload_n 1, 1) := by decide +kernel
theorem dX11_guest_108 : decode cX11_guest 108 = .ok (.iaload, 1) := by decide +kernel
theorem dX11_guest_109 : decode cX11_guest 109 = .ok (.ireturn, 1) := by decide +kernel
theorem dX11_guest_110 : decode cX11_guest 110 = .ok (.aload_n 0, 1) := by decide +kernel
theorem dX11_guest_111 : decode cX11_guest 111 = .ok (.getfield 10, 3) := by decide +kernel
theorem dX11_guest_114 : decode cX11_guest 114 = .ok (.getfield 101, 3) := by decide +kernel
theorem dX11_guest_117 : decode cX11_guest 117 = .ok (.iload_n 1, 1) := by decide +kernel
theorem dX11_guest_118 : decode cX11_guest 118 = .ok (.iaload, 1) := by decide +kernel
theorem dX11_guest_119 : decode cX11_guest 119 = .ok (.ireturn, 1) := by decide +kernel
theorem dX11_guest_120 : decode cX11_guest 120 = .ok (.aload_n 0, 1) := by decide +kernel
theorem dX11_guest_121 : decode cX11_guest 121 = .ok (.getfield 10, 3) := by decide +kernel
theorem dX11_guest_124 : decode cX11_guest 124 = .ok (.getfield 104, 3) := by decide +kernel
theorem dX11_guest_127 : decode cX11_guest 127 = .ok (.iload_n 1, 1) := by decide +kernel
theorem dX11_guest_128 : decode cX11_guest 128 = .ok (.iaload, 1) := by decide +kernel
theorem dX11_guest_129 : decode cX11_guest 129 = .ok (.ireturn, 1) := by decide +kernel
theorem dX11_guest_130 : decode cX11_guest 130 = .ok (.aload_n 0, 1) := by decide +kernel
theorem dX11_guest_131 : decode cX11_guest 131 = .ok (.getfield 10, 3) := by decide +kernel
theorem dX11_guest_134 : decode cX11_guest 134 = .ok (.iload_n 1, 1) := by decide +kernel
theorem dX11_guest_135 : decode cX11_guest 135 = .ok (.invokevirtual 107, 3) := by decide +kernel
theorem dX11_guest_138 : decode cX11_guest 138 = .ok (.ifCond .eq 7, 3) := by decide +kernel
theorem dX11_guest_141 : decode cX11_guest 141 = .ok (.iconst 1, 1) := by decide +kernel
theorem dX11_guest_142 : decode cX11_guest 142 = .ok (.goto 4, 3) := by decide +kernel
theorem dX11_guest_145 : decode cX11_guest 145 = .ok (.iconst 0, 1) := by decide +kernel
theorem dX11_guest_146 : decode cX11_guest 146 = .ok (.ireturn, 1) := by decide +kernel
theorem dX11_guest_147 : decode cX11_guest 147 = .ok (.aload_n 0, 1) := by decide +kernel
theorem dX11_guest_148 : decode cX11_guest 148 = .ok (.getfield 10, 3) := by decide +kernel
theorem dX11_guest_151 : decode cX11_guest 151 = .ok (.iload_n 1, 1) := by decide +kernel
theorem dX11_guest_152 : decode cX11_guest 152 = .ok (.invokevirtual 110, 3) := by decide +kernel
theorem dX11_guest_155 : decode cX11_guest 155 = .ok (.ifCond .eq 7, 3) := by decide +kernel
theorem dX11_guest_158 : decode cX11_guest 158 = .ok (.iconst 1, 1) := by decide +kernel
theorem dX11_guest_159 : decode cX11_guest 159 = .ok (.goto 4, 3) := by decide +kernel
theorem dX11_guest_162 : decode cX11_guest 162 = .ok (.iconst 0, 1) := by decide +kernel
theorem dX11_guest_163 : decode cX11_guest 163 = .ok (.ireturn, 1) := by decide +kernel
theorem dX11_guest_164 : decode cX11_guest 164 = .ok (.aload_n 0, 1) := by decide +kernel
theorem dX11_guest_165 : decode cX11_guest 165 = .ok (.getfield 10, 3) := by decide +kernel
theorem dX11_guest_168 : decode cX11_guest 168 = .ok (.iload_n 1, 1) := by decide +kernel
theorem dX11_guest_169 : decode cX11_guest 169 = .ok (.invokevirtual 113, 3) := by decide +kernel
theorem dX11_guest_172 : decode cX11_guest 172 = .ok (.ireturn, 1) := by decide +kernel
theorem dX11_guest_173 : decode cX11_guest 173 = .ok (.iconst (-1), 1) := by decide +kernel
theorem dX11_guest_174 : decode cX11_guest 174 = .ok (.ireturn, 1) := by decide +kernel
theorem dX11_comes_0 : decode cX11_comes 0 = .ok (.iload_n 1, 1) := by decide +kernel
theorem dX11_comes_1 : decode cX11_comes 1 = .ok (.invokestatic 45, 3) := by decide +kernel
theorem dX11_comes_4 : decode cX11_comes 4 = .ok (.ifCond .eq 10, 3) := by decide +kernel
theorem dX11_comes_7 : decode cX11_comes 7 = .ok (.iload_n 2, 1) := by decide +kernel
theorem dX11_comes_8 : decode cX11_comes 8 = .ok (.invokestatic 116, 3) := by decide +kernel
theorem dX11_comes_11 : decode cX11_comes 11 = .ok (.ifCond .ne 5, 3) := by decide +kernel
theorem dX11_comes_14 : decode cX11_comes 14 = .ok (.iconst (-1), 1) := by decide +kernel
theorem dX11_comes_15 : decode cX11_comes 15 = .ok (.ireturn, 1) := by decide +kernel
theorem dX11_comes_16 : decode cX11_comes 16 = .ok (.aload_n 0, 1) := by decide +kernel
theorem dX11_comes_17 : decode cX11_comes 17 = .ok (.iload_n 1, 1) := by decide +kernel
theorem dX11_comes_18 : decode cX11_comes 18 = .ok (.invokevirtual 119, 3) := by decide +kernel
theorem dX11_comes_21 : decode cX11_comes 21 = .ok (.astore_n 3, 1) := by decide +kernel
theorem dX11_comes_22 : decode cX11_comes 22 = .ok (.aload_n 3, 1) := by decide +kernel
theorem dX11_comes_23 : decode cX11_comes 23 = .ok (.ifnonnull 9, 3) := by decide +kernel
theorem dX11_comes_26 : decode cX11_comes 26 = .ok (.aload_n 0, 1) := by decide +kernel
theorem dX11_comes_27 : decode cX11_comes 27 = .ok (.iload_n 1, 1) := by decide +kernel
theorem dX11_comes_28 : decode cX11_comes 28 = .ok (.invokevirtual 123, 3) := by decide +kernel
theorem dX11_comes_31 : decode cX11_comes 31 = .ok (.ireturn, 1) := by decide +kernel
theorem dX11_comes_32 : decode cX11_comes 32 = .ok (.aload_n 0, 1) := by decide +kernel
theorem dX11_comes_33 : decode cX11_comes 33 = .ok (.getfield 10, 3) := by decide +kernel
theorem dX11_comes_36 : decode cX11_comes 36 = .ok (.invokevirtual 126, 3) := by decide +kernel
theorem dX11_comes_39 : decode cX11_comes 39 = .ok (.ifCond .eq 6, 3) := by decide +kernel
theorem dX11_comes_42 : decode cX11_comes 42 = .ok (.bipush (-2), 2) := by decide +kernel
theorem dX11_comes_44 : decode cX11_comes 44 = .ok (.ireturn, 1) := by decide +kernel
theorem dX11_comes_45 : decode cX11_comes 45 = .ok (.aload_n 0, 1) := by decide +kernel
theorem dX11_comes_46 : decode cX11_comes 46 = .ok (.getfield 10, 3) := by decide +kernel
theorem dX11_comes_49 : decode cX11_comes 49 = .ok (.aload_n 3, 1) := by decide +kernel
theorem dX11_comes_50 : decode cX11_comes 50 = .ok (.iload_n 2, 1) := by decide +kernel
theorem dX11_comes_51 : decode cX11_comes 51 = .ok (.invokevirtual 130, 3) := by decide +kernel
theorem dX11_comes_54 : decode cX11_comes 54 = .ok (.aload_n 0, 1) := by decide +kernel
theorem dX11_comes_55 : decode cX11_comes 55 = .ok (.getfield 10, 3) := by decide +kernel
theorem dX11_comes_58 : decode cX11_comes 58 = .ok (.getfield 134, 3) := by decide +kernel
theorem dX11_comes_61 : decode cX11_comes 61 = .ok (.iconst 1, 1) := by decide +kernel
theorem dX11_comes_62 : decode cX11_comes 62 = .ok (.isub, 1) := by decide +kernel
theorem dX11_comes_63 : decode cX11_comes 63 = .ok (.ireturn, 1) := by decide +kernel
theorem dX11_tells_0 : decode cX11_tells 0 = .ok (.aload_n 0, 1) := by decide +kernel
theorem dX11_tells_1 : decode cX11_tells 1 = .ok (.getfield 10, 3) := by decide +kernel
theorem dX11_tells_4 : decode cX11_tells 4 = .ok (.iload_n 1, 1) := by decide +kernel
theorem dX11_tells_5 : decode cX11_tells 5 = .ok (.invokevirtual 84, 3) := by decide +kernel
theorem dX11_tells_8 : decode cX11_tells 8 = .ok (.ifCond .ne 5, 3) := by decide +kernel
theorem dX11_tells_11 : decode cX11_tells 11 = .ok (.iconst (-1), 1) := by decide +kernel
theorem dX11_tells_12 : decode cX11_tells 12 = .ok (.ireturn, 1) := by decide +kernel
theorem dX11_tells_13 : decode cX11_tells 13 = .ok (.aload_n 0, 1) := by decide +kernel
theorem dX11_tells_14 : decode cX11_tells 14 = .ok (.getfield 10, 3) := by decide +kernel
theorem dX11_tells_17 : decode cX11_tells 17 = .ok (.iload_n 1, 1) := by decide +kernel
theorem dX11_tells_18 : decode cX11_tells 18 = .ok (.invokevirtual 137, 3) := by decide +kernel
theorem dX11_tells_21 : decode cX11_tells 21 = .ok (.ifCond .ne 6, 3) := by decide +kernel
theorem dX11_tells_24 : decode cX11_tells 24 = .ok (.bipush (-3), 2) := by decide +kernel
theorem dX11_tells_26 : decode cX11_tells 26 = .ok (.ireturn, 1) := by decide +kernel
theorem dX11_tells_27 : decode cX11_tells 27 = .ok (.aload_n 0, 1) := by decide +kernel
theorem dX11_tells_28 : decode cX11_tells 28 = .ok (.getfield 10, 3) := by decide +kernel
theorem dX11_tells_31 : decode cX11_tells 31 = .ok (.iload_n 1, 1) := by decide +kernel
theorem dX11_tells_32 : decode cX11_tells 32 = .ok (.invokevirtual 140, 3) := by decide +kernel
theorem dX11_tells_35 : decode cX11_tells 35 = .ok (.aload_n 0, 1) := by decide +kernel
theorem dX11_tells_36 : decode cX11_tells 36 = .ok (.getfield 10, 3) := by decide +kernel
theorem dX11_tells_39 : decode cX11_tells 39 = .ok (.getfield 95, 3) := by decide +kernel
theorem dX11_tells_42 : decode cX11_tells 42 = .ok (.iload_n 1, 1) := by decide +kernel
theorem dX11_tells_43 : decode cX11_tells 43 = .ok (.iaload, 1) := by decide +kernel
theorem dX11_tells_44 : decode cX11_tells 44 = .ok (.ireturn, 1) := by decide +kernel
theorem dX11_lends_0 : decode cX11_lends 0 = .ok (.aload_n 0, 1) := by decide +kernel
theorem dX11_lends_1 : decode cX11_lends 1 = .ok (.iload_n 1, 1) := by decide +kernel
theorem dX11_lends_2 : decode cX11_lends 2 = .ok (.iload_n 2, 1) := by decide +kernel
theorem dX11_lends_3 : decode cX11_lends 3 = .ok (.invokevirtual 144, 3) := by decide +kernel
theorem dX11_lends_6 : decode cX11_lends 6 = .ok (.ifCond .eq 14, 3) := by decide +kernel
theorem dX11_lends_9 : decode cX11_lends 9 = .ok (.iload_n 3, 1) := by decide +kernel
theorem dX11_lends_10 : decode cX11_lends 10 = .ok (.iconst 1, 1) := by decide +kernel
theorem dX11_lends_11 : decode cX11_lends 11 = .ok (.if_icmp .lt 9, 3) := by decide +kernel
theorem dX11_lends_14 : decode cX11_lends 14 = .ok (.iload_n 3, 1) := by decide +kernel
theorem dX11_lends_15 : decode cX11_lends 15 = .ok (.bipush 20, 2) := by decide +kernel
theorem dX11_lends_17 : decode cX11_lends 17 = .ok (.if_icmp .le 5, 3) := by decide +kernel
theorem dX11_lends_20 : decode cX11_lends 20 = .ok (.iconst (-1), 1) := by decide +kernel
theorem dX11_lends_21 : decode cX11_lends 21 = .ok (.ireturn, 1) := by decide +kernel
theorem dX11_lends_22 : decode cX11_lends 22 = .ok (.aload_n 0, 1) := by decide +kernel
theorem dX11_lends_23 : decode cX11_lends 23 = .ok (.getfield 10, 3) := by decide +kernel
theorem dX11_lends_26 : decode cX11_lends 26 = .ok (.iload_n 1, 1) := by decide +kernel
theorem dX11_lends_27 : decode cX11_lends 27 = .ok (.iload_n 2, 1) := by decide +kernel
theorem dX11_lends_28 : decode cX11_lends 28 = .ok (.iload_n 3, 1) := by decide +kernel
theorem dX11_lends_29 : decode cX11_lends 29 = .ok (.invokevirtual 148, 3) := by decide +kernel
theorem dX11_lends_32 : decode cX11_lends 32 = .ok (.ifCond .ne 6, 3) := by decide +kernel
theorem dX11_lends_35 : decode cX11_lends 35 = .ok (.bipush (-3), 2) := by decide +kernel
theorem dX11_lends_37 : decode cX11_lends 37 = .ok (.ireturn, 1) := by decide +kernel
theorem dX11_lends_38 : decode cX11_lends 38 = .ok (.aload_n 0, 1) := by decide +kernel
theorem dX11_lends_39 : decode cX11_lends 39 = .ok (.getfield 10, 3) := by decide +kernel
theorem dX11_lends_42 : decode cX11_lends 42 = .ok (.iload_n 1, 1) := by decide +kernel
theorem dX11_lends_43 : decode cX11_lends 43 = .ok (.iload_n 2, 1) := by decide +kernel
theorem dX11_lends_44 : decode cX11_lends 44 = .ok (.iload_n 3, 1) := by decide +kernel
theorem dX11_lends_45 : decode cX11_lends 45 = .ok (.invokevirtual 152, 3) := by decide +kernel
theorem dX11_lends_48 : decode cX11_lends 48 = .ok (.aload_n 0, 1) := by decide +kernel
theorem dX11_lends_49 : decode cX11_lends 49 = .ok (.getfield 10, 3) := by decide +kernel
theorem dX11_lends_52 : decode cX11_lends 52 = .ok (.getfield 95, 3) := by decide +kernel
theorem dX11_lends_55 : decode cX11_lends 55 = .ok (.iload_n 1, 1) := by decide +kernel
theorem dX11_lends_56 : decode cX11_lends 56 = .ok (.iaload, 1) := by decide +kernel
theorem dX11_lends_57 : decode cX11_lends 57 = .ok (.ireturn, 1) := by decide +kernel
theorem dX11_table_0 : decode cX11_table 0 = .ok (.iload_n 1, 1) := by decide +kernel
theorem dX11_table_1 : decode cX11_table 1 = .ok (.invokestatic 156, 3) := by decide +kernel
theorem dX11_table_4 : decode cX11_table 4 = .ok (.ifCond .eq 10, 3) := by decide +kernel
theorem dX11_table_7 : decode cX11_table 7 = .ok (.iload_n 2, 1) := by decide +kernel
theorem dX11_table_8 : decode cX11_table 8 = .ok (.invokestatic 156, 3) := by decide +kernel
theorem dX11_table_11 : decode cX11_table 11 = .ok (.ifCond .ne 5, 3) := by decide +kernel
theorem dX11_table_14 : decode cX11_table 14 = .ok (.iconst (-1), 1) := by decide +kernel
theorem dX11_table_15 : decode cX11_table 15 = .ok (.ireturn, 1) := by decide +kernel
theorem dX11_table_16 : decode cX11_table 16 = .ok (.bipush 10, 2) := by decide +kernel
theorem dX11_table_18 : decode cX11_table 18 = .ok (.aload_n 0, 1) := by decide +kernel
theorem dX11_table_19 : decode cX11_table 19 = .ok (.getfield 10, 3) := by decide +kernel
theorem dX11_table_22 : decode cX11_table 22 = .ok (.getfield 159, 3) := by decide +kernel
theorem dX11_table_25 : decode cX11_table 25 = .ok (.imul, 1) := by decide +kernel
theorem dX11_table_26 : decode cX11_table 26 = .ok (.aload_n 0, 1) := by decide +kernel
theorem dX11_table_27 : decode cX11_table 27 = .ok (.getfield 10, 3) := by decide +kernel
theorem dX11_table_30 : decode cX11_table 30 = .ok (.getfield 162, 3) := by decide +kernel
theorem dX11_table_33 : decode cX11_table 33 = .ok (.iadd, 1) := by decide +kernel
theorem dX11_table_34 : decode cX11_table 34 = .ok (.istore_n 3, 1) := by decide +kernel
theorem dX11_table_35 : decode cX11_table 35 = .ok (.aload_n 0, 1) := by decide +kernel
theorem dX11_table_36 : decode cX11_table 36 = .ok (.getfield 10, 3) := by decide +kernel
theorem dX11_table_39 : decode cX11_table 39 = .ok (.iload_n 1, 1) := by decide +kernel
theorem dX11_table_40 : decode cX11_table 40 = .ok (.putfield 159, 3) := by decide +kernel
theorem dX11_table_43 : decode cX11_table 43 = .ok (.aload_n 0, 1) := by decide +kernel
theorem dX11_table_44 : decode cX11_table 44 = .ok (.getfield 10, 3) := by decide +kernel
theorem dX11_table_47 : decode cX11_table 47 = .ok (.iload_n 2, 1) := by decide +kernel
theorem dX11_table_48 : decode cX11_table 48 = .ok (.putfield 162, 3) := by decide +kernel
theorem dX11_table_51 : decode cX11_table 51 = .ok (.iload_n 3, 1) := by decide +kernel
theorem dX11_table_52 : decode cX11_table 52 = .ok (.ireturn, 1) := by decide +kernel
theorem dX11_weighs_0 : decode cX11_weighs 0 = .ok (.aload_n 0, 1) := by decide +kernel
theorem dX11_weighs_1 : decode cX11_weighs 1 = .ok (.getfield 10, 3) := by decide +kernel
theorem dX11_weighs_4 : decode cX11_weighs 4 = .ok (.iload_n 1, 1) := by decide +kernel
theorem dX11_weighs_5 : decode cX11_weighs 5 = .ok (.invokevirtual 84, 3) := by decide +kernel
theorem dX11_weighs_8 : decode cX11_weighs 8 = .ok (.ifCond .eq 10, 3) := by decide +kernel
theorem dX11_weighs_11 : decode cX11_weighs 11 = .ok (.iload_n 2, 1) := by decide +kernel
theorem dX11_weighs_12 : decode cX11_weighs 12 = .ok (.invokestatic 116, 3) := by decide +kernel
theorem dX11_weighs_15 : decode cX11_weighs 15 = .ok (.ifCond .ne 5, 3) := by decide +kernel
theorem dX11_weighs_18 : decode cX11_weighs 18 = .ok (.iconst (-1), 1) := by decide +kernel
theorem dX11_weighs_19 : decode cX11_weighs 19 = .ok (.ireturn, 1) := by decide +kernel
theorem dX11_weighs_20 : decode cX11_weighs 20 = .ok (.aload_n 0, 1) := by decide +kernel
theorem dX11_weighs_21 : decode cX11_weighs 21 = .ok (.getfield 10, 3) := by decide +kernel
theorem dX11_weighs_24 : decode cX11_weighs 24 = .ok (.iload_n 1, 1) := by decide +kernel
theorem dX11_weighs_25 : decode cX11_weighs 25 = .ok (.invokevirtual 107, 3) := by decide +kernel
theorem dX11_weighs_28 : decode cX11_weighs 28 = .ok (.ifCond .ne 6, 3) := by decide +kernel
theorem dX11_weighs_31 : decode cX11_weighs 31 = .ok (.bipush (-3), 2) := by decide +kernel
theorem dX11_weighs_33 : decode cX11_weighs 33 = .ok (.ireturn, 1) := by decide +kernel
theorem dX11_weighs_34 : decode cX11_weighs 34 = .ok (.aload_n 0, 1) := by decide +kernel
theorem dX11_weighs_35 : decode cX11_weighs 35 = .ok (.getfield 10, 3) := by decide +kernel
theorem dX11_weighs_38 : decode cX11_weighs 38 = .ok (.getfield 95, 3) := by decide +kernel
theorem dX11_weighs_41 : decode cX11_weighs 41 = .ok (.iload_n 1, 1) := by decide +kernel
theorem dX11_weighs_42 : decode cX11_weighs 42 = .ok (.iaload, 1) := by decide +kernel
theorem dX11_weighs_43 : decode cX11_weighs 43 = .ok (.istore_n 3, 1) := by decide +kernel
theorem dX11_weighs_44 : decode cX11_weighs 44 = .ok (.aload_n 0, 1) := by decide +kernel
theorem dX11_weighs_45 : decode cX11_weighs 45 = .ok (.getfield 10, 3) := by decide +kernel
theorem dX11_weighs_48 : decode cX11_weighs 48 = .ok (.getfield 95, 3) := by decide +kernel
theorem dX11_weighs_51 : decode cX11_weighs 51 = .ok (.iload_n 1, 1) := by decide +kernel
theorem dX11_weighs_52 : decode cX11_weighs 52 = .ok (.iload_n 2, 1) := by decide +kernel
theorem dX11_weighs_53 : decode cX11_weighs 53 = .ok (.iastore, 1) := by decide +kernel
theorem dX11_weighs_54 : decode cX11_weighs 54 = .ok (.iload_n 3, 1) := by decide +kernel
theorem dX11_weighs_55 : decode cX11_weighs 55 = .ok (.ireturn, 1) := by decide +kernel
theorem dX11_days_0 : decode cX11_days 0 = .ok (.iload_n 1, 1) := by decide +kernel
theorem dX11_days_1 : decode cX11_days 1 = .ok (.iconst 1, 1) := by decide +kernel
theorem dX11_days_2 : decode cX11_days 2 = .ok (.if_icmp .lt 9, 3) := by decide +kernel
theorem dX11_days_5 : decode cX11_days 5 = .ok (.iload_n 1, 1) := by decide +kernel
theorem dX11_days_6 : decode cX11_days 6 = .ok (.bipush 60, 2) := by decide +kernel
theorem dX11_days_8 : decode cX11_days 8 = .ok (.if_icmp .le 5, 3) := by decide +kernel
theorem dX11_days_11 : decode cX11_days 11 = .ok (.iconst (-1), 1) := by decide +kernel
theorem dX11_days_12 : decode cX11_days 12 = .ok (.ireturn, 1) := by decide +kernel
theorem dX11_days_13 : decode cX11_days 13 = .ok (.aload_n 0, 1) := by decide +kernel
theorem dX11_days_14 : decode cX11_days 14 = .ok (.getfield 10, 3) := by decide +kernel
theorem dX11_days_17 : decode cX11_days 17 = .ok (.getfield 165, 3) := by decide +kernel
theorem dX11_days_20 : decode cX11_days 20 = .ok (.iload_n 1, 1) := by decide +kernel
theorem dX11_days_21 : decode cX11_days 21 = .ok (.iadd, 1) := by decide +kernel
theorem dX11_days_22 : decode cX11_days 22 = .ok (.sipush 999, 3) := by decide +kernel
theorem dX11_days_25 : decode cX11_days 25 = .ok (.if_icmp .le 6, 3) := by decide +kernel
theorem dX11_days_28 : decode cX11_days 28 = .ok (.bipush (-3), 2) := by decide +kernel
theorem dX11_days_30 : decode cX11_days 30 = .ok (.ireturn, 1) := by decide +kernel
theorem dX11_days_31 : decode cX11_days 31 = .ok (.aload_n 0, 1) := by decide +kernel
theorem dX11_days_32 : decode cX11_days 32 = .ok (.getfield 10, 3) := by decide +kernel
theorem dX11_days_35 : decode cX11_days 35 = .ok (.iload_n 1, 1) := by decide +kernel
theorem dX11_days_36 : decode cX11_days 36 = .ok (.invokevirtual 168, 3) := by decide +kernel
theorem dX11_days_39 : decode cX11_days 39 = .ok (.aload_n 0, 1) := by decide +kernel
theorem dX11_days_40 : decode cX11_days 40 = .ok (.getfield 10, 3) := by decide +kernel
theorem dX11_days_43 : decode cX11_days 43 = .ok (.getfield 171, 3) := by decide +kernel
theorem dX11_days_46 : decode cX11_days 46 = .ok (.ireturn, 1) := by decide +kernel
theorem dX11_weightThen_0 : decode cX11_weightThen 0 = .ok (.aload_n 0, 1) := by decide +kernel
theorem dX11_weightThen_1 : decode cX11_weightThen 1 = .ok (.getfield 10, 3) := by decide +kernel
theorem dX11_weightThen_4 : decode cX11_weightThen 4 = .ok (.iload_n 1, 1) := by decide +kernel
theorem dX11_weightThen_5 : decode cX11_weightThen 5 = .ok (.invokevirtual 84, 3) := by decide +kernel
theorem dX11_weightThen_8 : decode cX11_weightThen 8 = .ok (.ifCond .eq 10, 3) := by decide +kernel
theorem dX11_weightThen_11 : decode cX11_weightThen 11 = .ok (.iload_n 2, 1) := by decide +kernel
theorem dX11_weightThen_12 : decode cX11_weightThen 12 = .ok (.invokestatic 174, 3) := by decide +kernel
theorem dX11_weightThen_15 : decode cX11_weightThen 15 = .ok (.ifCond .ne 5, 3) := by decide +kernel
theorem dX11_weightThen_18 : decode cX11_weightThen 18 = .ok (.iconst (-1), 1) := by decide +kernel
theorem dX11_weightThen_19 : decode cX11_weightThen 19 = .ok (.ireturn, 1) := by decide +kernel
theorem dX11_weightThen_20 : decode cX11_weightThen 20 = .ok (.aload_n 0, 1) := by decide +kernel
theorem dX11_weightThen_21 : decode cX11_weightThen 21 = .ok (.getfield 16, 3) := by decide +kernel
theorem dX11_weightThen_24 : decode cX11_weightThen 24 = .ok (.aload_n 0, 1) := by decide +kernel
theorem dX11_weightThen_25 : decode cX11_weightThen 25 = .ok (.getfield 10, 3) := by decide +kernel
theorem dX11_weightThen_28 : decode cX11_weightThen 28 = .ok (.invokevirtual 70, 3) := by decide +kernel
theorem dX11_weightThen_31 : decode cX11_weightThen 31 = .ok (.aload_n 0, 1) := by decide +kernel
theorem dX11_weightThen_32 : decode cX11_weightThen 32 = .ok (.getfield 16, 3) := by decide +kernel
theorem dX11_weightThen_35 : decode cX11_weightThen 35 = .ok (.iload_n 2, 1) := by decide +kernel
theorem dX11_weightThen_36 : decode cX11_weightThen 36 = .ok (.invokevirtual 168, 3) := by decide +kernel
theorem dX11_weightThen_39 : decode cX11_weightThen 39 = .ok (.aload_n 0, 1) := by decide +kernel
theorem dX11_weightThen_40 : decode cX11_weightThen 40 = .ok (.getfield 16, 3) := by decide +kernel
theorem dX11_weightThen_43 : decode cX11_weightThen 43 = .ok (.getfield 95, 3) := by decide +kernel
theorem dX11_weightThen_46 : decode cX11_weightThen 46 = .ok (.iload_n 1, 1) := by decide +kernel
theorem dX11_weightThen_47 : decode cX11_weightThen 47 = .ok (.iaload, 1) := by decide +kernel
theorem dX11_weightThen_48 : decode cX11_weightThen 48 = .ok (.ireturn, 1) := by decide +kernel
theorem dX11_then_0 : decode cX11_then 0 = .ok (.iload_n 1, 1) := by decide +kernel
theorem dX11_then_1 : decode cX11_then 1 = .ok (.invokestatic 174, 3) := by decide +kernel
theorem dX11_then_4 : decode cX11_then 4 = .ok (.ifCond .eq 12, 3) := by decide +kernel
theorem dX11_then_7 : decode cX11_then 7 = .ok (.iload_n 2, 1) := by decide +kernel
theorem dX11_then_8 : decode cX11_then 8 = .ok (.ifCond .lt 8, 3) := by decide +kernel
theorem dX11_then_11 : decode cX11_then 11 = .ok (.iload_n 2, 1) := by decide +kernel
theorem dX11_then_12 : decode cX11_then 12 = .ok (.iconst 2, 1) := by decide +kernel
theorem dX11_then_13 : decode cX11_then 13 = .ok (.if_icmp .le 5, 3) := by decide +kernel
theorem dX11_then_16 : decode cX11_then 16 = .ok (.iconst (-1), 1) := by decide +kernel
theorem dX11_then_17 : decode cX11_then 17 = .ok (.ireturn, 1) := by decide +kernel
theorem dX11_then_18 : decode cX11_then 18 = .ok (.aload_n 0, 1) := by decide +kernel
theorem dX11_then_19 : decode cX11_then 19 = .ok (.getfield 16, 3) := by decide +kernel
theorem dX11_then_22 : decode cX11_then 22 = .ok (.aload_n 0, 1) := by decide +kernel
theorem dX11_then_23 : decode cX11_then 23 = .ok (.getfield 10, 3) := by decide +kernel
theorem dX11_then_26 : decode cX11_then 26 = .ok (.invokevirtual 70, 3) := by decide +kernel
theorem dX11_then_29 : decode cX11_then 29 = .ok (.aload_n 0, 1) := by decide +kernel
theorem dX11_then_30 : decode cX11_then 30 = .ok (.getfield 16, 3) := by decide +kernel
theorem dX11_then_33 : decode cX11_then 33 = .ok (.iload_n 1, 1) := by decide +kernel
theorem dX11_then_34 : decode cX11_then 34 = .ok (.invokevirtual 168, 3) := by decide +kernel
theorem dX11_then_37 : decode cX11_then 37 = .ok (.iload_n 2, 1) := by decide +kernel
theorem dX11_then_38 : decode cX11_then 38 = .ok (.ifCond .ne 11, 3) := by decide +kernel
theorem dX11_then_41 : decode cX11_then 41 = .ok (.aload_n 0, 1) := by decide +kernel
theorem dX11_then_42 : decode cX11_then 42 = .ok (.getfield 16, 3) := by decide +kernel
theorem dX11_then_45 : decode cX11_then 45 = .ok (.getfield 177, 3) := by decide +kernel
theorem dX11_then_48 : decode cX11_then 48 = .ok (.ireturn, 1) := by decide +kernel
theorem dX11_then_49 : decode cX11_then 49 = .ok (.iload_n 2, 1) := by decide +kernel
theorem dX11_then_50 : decode cX11_then 50 = .ok (.iconst 1, 1) := by decide +kernel
theorem dX11_then_51 : decode cX11_then 51 = .ok (.if_icmp .ne 13, 3) := by decide +kernel
theorem dX11_then_54 : decode cX11_then 54 = .ok (.aload_n 0, 1) := by decide +kernel
theorem dX11_then_55 : decode cX11_then 55 = .ok (.getfield 16, 3) := by decide +kernel
theorem dX11_then_58 : decode cX11_then 58 = .ok (.getfield 171, 3) := by decide +kernel
theorem dX11_then_61 : decode cX11_then 61 = .ok (.goto 10, 3) := by decide +kernel
theorem dX11_then_64 : decode cX11_then 64 = .ok (.aload_n 0, 1) := by decide +kernel
theorem dX11_then_65 : decode cX11_then 65 = .ok (.getfield 16, 3) := by decide +kernel
theorem dX11_then_68 : decode cX11_then 68 = .ok (.invokevirtual 180, 3) := by decide +kernel
theorem dX11_then_71 : decode cX11_then 71 = .ok (.ireturn, 1) := by decide +kernel
theorem dX11_leaves_0 : decode cX11_leaves 0 = .ok (.iload_n 1, 1) := by decide +kernel
theorem dX11_leaves_1 : decode cX11_leaves 1 = .ok (.iconst (-1), 1) := by decide +kernel
theorem dX11_leaves_2 : decode cX11_leaves 2 = .ok (.if_icmp .ne 8, 3) := by decide +kernel
theorem dX11_leaves_5 : decode cX11_leaves 5 = .ok (.aload_n 0, 1) := by decide +kernel
theorem dX11_leaves_6 : decode cX11_leaves 6 = .ok (.invokevirtual 183, 3) := by decide +kernel
theorem dX11_leaves_9 : decode cX11_leaves 9 = .ok (.ireturn, 1) := by decide +kernel
theorem dX11_leaves_10 : decode cX11_leaves 10 = .ok (.aload_n 0, 1) := by decide +kernel
theorem dX11_leaves_11 : decode cX11_leaves 11 = .ok (.getfield 10, 3) := by decide +kernel
theorem dX11_leaves_14 : decode cX11_leaves 14 = .ok (.iload_n 1, 1) := by decide +kernel
theorem dX11_leaves_15 : decode cX11_leaves 15 = .ok (.invokevirtual 84, 3) := by decide +kernel
theorem dX11_leaves_18 : decode cX11_leaves 18 = .ok (.ifCond .ne 5, 3) := by decide +kernel
theorem dX11_leaves_21 : decode cX11_leaves 21 = .ok (.iconst (-1), 1) := by decide +kernel
theorem dX11_leaves_22 : decode cX11_leaves 22 = .ok (.ireturn, 1) := by decide +kernel
theorem dX11_leaves_23 : decode cX11_leaves 23 = .ok (.aload_n 0, 1) := by decide +kernel
theorem dX11_leaves_24 : decode cX11_leaves 24 = .ok (.getfield 16, 3) := by decide +kernel
theorem dX11_leaves_27 : decode cX11_leaves 27 = .ok (.aload_n 0, 1) := by decide +kernel
theorem dX11_leaves_28 : decode cX11_leaves 28 = .ok (.getfield 10, 3) := by decide +kernel
theorem dX11_leaves_31 : decode cX11_leaves 31 = .ok (.invokevirtual 70, 3) := by decide +kernel
theorem dX11_leaves_34 : decode cX11_leaves 34 = .ok (.iconst 0, 1) := by decide +kernel
theorem dX11_leaves_35 : decode cX11_leaves 35 = .ok (.istore_n 2, 1) := by decide +kernel
theorem dX11_leaves_36 : decode cX11_leaves 36 = .ok (.iload_n 2, 1) := by decide +kernel
theorem dX11_leaves_37 : decode cX11_leaves 37 = .ok (.bipush 60, 2) := by decide +kernel
theorem dX11_leaves_39 : decode cX11_leaves 39 = .ok (.if_icmp .gt 30, 3) := by decide +kernel
theorem dX11_leaves_42 : decode cX11_leaves 42 = .ok (.aload_n 0, 1) := by decide +kernel
theorem dX11_leaves_43 : decode cX11_leaves 43 = .ok (.getfield 16, 3) := by decide +kernel
theorem dX11_leaves_46 : decode cX11_leaves 46 = .ok (.iload_n 1, 1) := by decide +kernel
theorem dX11_leaves_47 : decode cX11_leaves 47 = .ok (.invokevirtual 107, 3) := by decide +kernel
theorem dX11_leaves_50 : decode cX11_leaves 50 = .ok (.ifCond .ne 5, 3) := by decide +kernel
theorem dX11_leaves_53 : decode cX11_leaves 53 = .ok (.iload_n 2, 1) := by decide +kernel
theorem dX11_leaves_54 : decode cX11_leaves 54 = .ok (.ireturn, 1) := by decide +kernel
theorem dX11_leaves_55 : decode cX11_leaves 55 = .ok (.aload_n 0, 1) := by decide +kernel
theorem dX11_leaves_56 : decode cX11_leaves 56 = .ok (.getfield 16, 3) := by decide +kernel
theorem dX11_leaves_59 : decode cX11_leaves 59 = .ok (.iload_n 1, 1) := by decide +kernel
theorem dX11_leaves_60 : decode cX11_leaves 60 = .ok (.invokevirtual 186, 3) := by decide +kernel
theorem dX11_leaves_63 : decode cX11_leaves 63 = .ok (.iinc 2 1, 3) := by decide +kernel
theorem dX11_leaves_66 : decode cX11_leaves 66 = .ok (.goto (-30), 3) := by decide +kernel
theorem dX11_leaves_69 : decode cX11_leaves 69 = .ok (.bipush (-4), 2) := by decide +kernel
theorem dX11_leaves_71 : decode cX11_leaves 71 = .ok (.ireturn, 1) := by decide +kernel
theorem dX11_order_0 : decode cX11_order 0 = .ok (.iload_n 1, 1) := by decide +kernel
theorem dX11_order_1 : decode cX11_order 1 = .ok (.iconst (-1), 1) := by decide +kernel
theorem dX11_order_2 : decode cX11_order 2 = .ok (.if_icmp .ge 5, 3) := by decide +kernel
theorem dX11_order_5 : decode cX11_order 5 = .ok (.iconst (-1), 1) := by decide +kernel
theorem dX11_order_6 : decode cX11_order 6 = .ok (.ireturn, 1) := by decide +kernel
theorem dX11_order_7 : decode cX11_order 7 = .ok (.iload_n 1, 1) := by decide +kernel
theorem dX11_order_8 : decode cX11_order 8 = .ok (.iconst (-1), 1) := by decide +kernel
theorem dX11_order_9 : decode cX11_order 9 = .ok (.if_icmp .ne 13, 3) := by decide +kernel
theorem dX11_order_12 : decode cX11_order 12 = .ok (.aload_n 0, 1) := by decide +kernel
theorem dX11_order_13 : decode cX11_order 13 = .ok (.getfield 10, 3) := by decide +kernel
theorem dX11_order_16 : decode cX11_order 16 = .ok (.invokevirtual 189, 3) := by decide +kernel
theorem dX11_order_19 : decode cX11_order 19 = .ok (.goto 11, 3) := by decide +kernel
theorem dX11_order_22 : decode cX11_order 22 = .ok (.aload_n 0, 1) := by decide +kernel
theorem dX11_order_23 : decode cX11_order 23 = .ok (.getfield 10, 3) := by decide +kernel
theorem dX11_order_26 : decode cX11_order 26 = .ok (.iload_n 1, 1) := by decide +kernel
theorem dX11_order_27 : decode cX11_order 27 = .ok (.invokevirtual 192, 3) := by decide +kernel
theorem dX11_order_30 : decode cX11_order 30 = .ok (.ireturn, 1) := by decide +kernel
theorem dX11_firstToLeave_0 : decode cX11_firstToLeave 0 = .ok (.aload_n 0, 1) := by decide +kernel
theorem dX11_firstToLeave_1 : decode cX11_firstToLeave 1 = .ok (.getfield 16, 3) := by decide +kernel
theorem dX11_firstToLeave_4 : decode cX11_firstToLeave 4 = .ok (.aload_n 0, 1) := by decide +kernel
theorem dX11_firstToLeave_5 : decode cX11_firstToLeave 5 = .ok (.getfield 10, 3) := by decide +kernel
theorem dX11_firstToLeave_8 : decode cX11_firstToLeave 8 = .ok (.invokevirtual 70, 3) := by decide +kernel
theorem dX11_firstToLeave_11 : decode cX11_firstToLeave 11 = .ok (.iconst 1, 1) := by decide +kernel
theorem dX11_firstToLeave_12 : decode cX11_firstToLeave 12 = .ok (.istore_n 1, 1) := by decide +kernel
theorem dX11_firstToLeave_13 : decode cX11_firstToLeave 13 = .ok (.iload_n 1, 1) := by decide +kernel
theorem dX11_firstToLeave_14 : decode cX11_firstToLeave 14 = .ok (.bipush 60, 2) := by decide +kernel
theorem dX11_firstToLeave_16 : decode cX11_firstToLeave 16 = .ok (.if_icmp .gt 43, 3) := by decide +kernel
theorem dX11_firstToLeave_19 : decode cX11_firstToLeave 19 = .ok (.aload_n 0, 1) := by decide +kernel
theorem dX11_firstToLeave_20 : decode cX11_firstToLeave 20 = .ok (.getfield 16, 3) := by decide +kernel
theorem dX11_firstToLeave_23 : decode cX11_firstToLeave 23 = .ok (.invokevirtual 195, 3) := by decide +kernel
theorem dX11_firstToLeave_26 : decode cX11_firstToLeave 26 = .ok (.aload_n 0, 1) := by decide +kernel
theorem dX11_firstToLeave_27 : decode cX11_firstToLeave 27 = .ok (.getfield 10, 3) := by decide +kernel
theorem dX11_firstToLeave_30 : decode cX11_firstToLeave 30 = .ok (.getfield 177, 3) := by decide +kernel
theorem dX11_firstToLeave_33 : decode cX11_firstToLeave 33 = .ok (.aload_n 0, 1) := by decide +kernel
theorem dX11_firstToLeave_34 : decode cX11_firstToLeave 34 = .ok (.getfield 16, 3) := by decide +kernel
theorem dX11_firstToLeave_37 : decode cX11_firstToLeave 37 = .ok (.getfield 177, 3) := by decide +kernel
theorem dX11_firstToLeave_40 : decode cX11_firstToLeave 40 = .ok (.iconst (-1), 1) := by decide +kernel
theorem dX11_firstToLeave_41 : decode cX11_firstToLeave 41 = .ok (.ixor, 1) := by decide +kernel
theorem dX11_firstToLeave_42 : decode cX11_firstToLeave 42 = .ok (.iand, 1) := by decide +kernel
theorem dX11_firstToLeave_43 : decode cX11_firstToLeave 43 = .ok (.istore_n 2, 1) := by decide +kernel
theorem dX11_firstToLeave_44 : decode cX11_firstToLeave 44 = .ok (.iload_n 2, 1) := by decide +kernel
theorem dX11_firstToLeave_45 : decode cX11_firstToLeave 45 = .ok (.ifCond .eq 8, 3) := by decide +kernel
theorem dX11_firstToLeave_48 : decode cX11_firstToLeave 48 = .ok (.iload_n 2, 1) := by decide +kernel
theorem dX11_firstToLeave_49 : decode cX11_firstToLeave 49 = .ok (.invokestatic 198, 3) := by decide +kernel
theorem dX11_firstToLeave_52 : decode cX11_firstToLeave 52 = .ok (.ireturn, 1) := by decide +kernel
theorem dX11_firstToLeave_53 : decode cX11_firstToLeave 53 = .ok (.iinc 1 1, 3) := by decide +kernel
theorem dX11_firstToLeave_56 : decode cX11_firstToLeave 56 = .ok (.goto (-43), 3) := by decide +kernel
theorem dX11_firstToLeave_59 : decode cX11_firstToLeave 59 = .ok (.bipush (-4), 2) := by decide +kernel
theorem dX11_firstToLeave_61 : decode cX11_firstToLeave 61 = .ok (.ireturn, 1) := by decide +kernel
theorem dX11_feed_0 : decode cX11_feed 0 = .ok (.iload_n 1, 1) := by decide +kernel
theorem dX11_feed_1 : decode cX11_feed 1 = .ok (.invokestatic 174, 3) := by decide +kernel
theorem dX11_feed_4 : decode cX11_feed 4 = .ok (.ifCond .eq 12, 3) := by decide +kernel
theorem dX11_feed_7 : decode cX11_feed 7 = .ok (.iload_n 2, 1) := by decide +kernel
theorem dX11_feed_8 : decode cX11_feed 8 = .ok (.ifCond .lt 8, 3) := by decide +kernel
theorem dX11_feed_11 : decode cX11_feed 11 = .ok (.iload_n 2, 1) := by decide +kernel
theorem dX11_feed_12 : decode cX11_feed 12 = .ok (.iconst 1, 1) := by decide +kernel
theorem dX11_feed_13 : decode cX11_feed 13 = .ok (.if_icmp .le 5, 3) := by decide +kernel
theorem dX11_feed_16 : decode cX11_feed 16 = .ok (.iconst (-1), 1) := by decide +kernel
theorem dX11_feed_17 : decode cX11_feed 17 = .ok (.ireturn, 1) := by decide +kernel
theorem dX11_feed_18 : decode cX11_feed 18 = .ok (.iconst 0, 1) := by decide +kernel
theorem dX11_feed_19 : decode cX11_feed 19 = .ok (.istore_n 3, 1) := by decide +kernel
theorem dX11_feed_20 : decode cX11_feed 20 = .ok (.iconst (-1), 1) := by decide +kernel
theorem dX11_feed_21 : decode cX11_feed 21 = .ok (.istore 4, 2) := by decide +kernel
theorem dX11_feed_23 : decode cX11_feed 23 = .ok (.iconst 0, 1) := by decide +kernel
theorem dX11_feed_24 : decode cX11_feed 24 = .ok (.istore 5, 2) := by decide +kernel
theorem dX11_feed_26 : decode cX11_feed 26 = .ok (.iload 5, 2) := by decide +kernel
theorem dX11_feed_28 : decode cX11_feed 28 = .ok (.bipush 9, 2) := by decide +kernel
theorem dX11_feed_30 : decode cX11_feed 30 = .ok (.if_icmp .gt 61, 3) := by decide +kernel
theorem dX11_feed_33 : decode cX11_feed 33 = .ok (.aload_n 0, 1) := by decide +kernel
theorem dX11_feed_34 : decode cX11_feed 34 = .ok (.getfield 16, 3) := by decide +kernel
theorem dX11_feed_37 : decode cX11_feed 37 = .ok (.aload_n 0, 1) := by decide +kernel
theorem dX11_feed_38 : decode cX11_feed 38 = .ok (.getfield 10, 3) := by decide +kernel
theorem dX11_feed_41 : decode cX11_feed 41 = .ok (.invokevirtual 70, 3) := by decide +kernel
theorem dX11_feed_44 : decode cX11_feed 44 = .ok (.aload_n 0, 1) := by decide +kernel
theorem dX11_feed_45 : decode cX11_feed 45 = .ok (.getfield 16, 3) := by decide +kernel
theorem dX11_feed_48 : decode cX11_feed 48 = .ok (.iload 5, 2) := by decide +kernel
theorem dX11_feed_50 : decode cX11_feed 50 = .ok (.putfield 159, 3) := by decide +kernel
theorem dX11_feed_53 : decode cX11_feed 53 = .ok (.aload_n 0, 1) := by decide +kernel
theorem dX11_feed_54 : decode cX11_feed 54 = .ok (.getfield 16, 3) := by decide +kernel
theorem dX11_feed_57 : decode cX11_feed 57 = .ok (.iload_n 1, 1) := by decide +kernel
theorem dX11_feed_58 : decode cX11_feed 58 = .ok (.invokevirtual 168, 3) := by decide +kernel
theorem dX11_feed_61 : decode cX11_feed 61 = .ok (.aload_n 0, 1) := by decide +kernel
theorem dX11_feed_62 : decode cX11_feed 62 = .ok (.getfield 16, 3) := by decide +kernel
theorem dX11_feed_65 : decode cX11_feed 65 = .ok (.getfield 171, 3) := by decide +kernel
theorem dX11_feed_68 : decode cX11_feed 68 = .ok (.iload 4, 2) := by decide +kernel
theorem dX11_feed_70 : decode cX11_feed 70 = .ok (.if_icmp .le 15, 3) := by decide +kernel
theorem dX11_feed_73 : decode cX11_feed 73 = .ok (.iload 5, 2) := by decide +kernel
theorem dX11_feed_75 : decode cX11_feed 75 = .ok (.istore_n 3, 1) := by decide +kernel
theorem dX11_feed_76 : decode cX11_feed 76 = .ok (.aload_n 0, 1) := by decide +kernel
theorem dX11_feed_77 : decode cX11_feed 77 = .ok (.getfield 16, 3) := by decide +kernel
theorem dX11_feed_80 : decode cX11_feed 80 = .ok (.getfield 171, 3) := by decide +kernel
theorem dX11_feed_83 : decode cX11_feed 83 = .ok (.istore 4, 2) := by decide +kernel
theorem dX11_feed_85 : decode cX11_feed 85 = .ok (.iinc 5 1, 3) := by decide +kernel
theorem dX11_feed_88 : decode cX11_feed 88 = .ok (.goto (-62), 3) := by decide +kernel
theorem dX11_feed_91 : decode cX11_feed 91 = .ok (.iload_n 2, 1) := by decide +kernel
theorem dX11_feed_92 : decode cX11_feed 92 = .ok (.ifCond .ne 7, 3) := by decide +kernel
theorem dX11_feed_95 : decode cX11_feed 95 = .ok (.iload_n 3, 1) := by decide +kernel
theorem dX11_feed_96 : decode cX11_feed 96 = .ok (.goto 5, 3) := by decide +kernel
theorem dX11_feed_99 : decode cX11_feed 99 = .ok (.iload 4, 2) := by decide +kernel
theorem dX11_feed_101 : decode cX11_feed 101 = .ok (.ireturn, 1) := by decide +kernel
theorem dX11_empty_0 : decode cX11_empty 0 = .ok (.iload_n 1, 1) := by decide +kernel
theorem dX11_empty_1 : decode cX11_empty 1 = .ok (.invokestatic 174, 3) := by decide +kernel
theorem dX11_empty_4 : decode cX11_empty 4 = .ok (.ifCond .ne 5, 3) := by decide +kernel
theorem dX11_empty_7 : decode cX11_empty 7 = .ok (.iconst (-1), 1) := by decide +kernel
theorem dX11_empty_8 : decode cX11_empty 8 = .ok (.ireturn, 1) := by decide +kernel
theorem dX11_empty_9 : decode cX11_empty 9 = .ok (.iconst 0, 1) := by decide +kernel
theorem dX11_empty_10 : decode cX11_empty 10 = .ok (.istore_n 2, 1) := by decide +kernel
theorem dX11_empty_11 : decode cX11_empty 11 = .ok (.iload_n 2, 1) := by decide +kernel
theorem dX11_empty_12 : decode cX11_empty 12 = .ok (.bipush 9, 2) := by decide +kernel
theorem dX11_empty_14 : decode cX11_empty 14 = .ok (.if_icmp .gt 48, 3) := by decide +kernel
theorem dX11_empty_17 : decode cX11_empty 17 = .ok (.aload_n 0, 1) := by decide +kernel
theorem dX11_empty_18 : decode cX11_empty 18 = .ok (.getfield 16, 3) := by decide +kernel
theorem dX11_empty_21 : decode cX11_empty 21 = .ok (.aload_n 0, 1) := by decide +kernel
theorem dX11_empty_22 : decode cX11_empty 22 = .ok (.getfield 10, 3) := by decide +kernel
theorem dX11_empty_25 : decode cX11_empty 25 = .ok (.invokevirtual 70, 3) := by decide +kernel
theorem dX11_empty_28 : decode cX11_empty 28 = .ok (.aload_n 0, 1) := by decide +kernel
theorem dX11_empty_29 : decode cX11_empty 29 = .ok (.getfield 16, 3) := by decide +kernel
theorem dX11_empty_32 : decode cX11_empty 32 = .ok (.iload_n 2, 1) := by decide +kernel
theorem dX11_empty_33 : decode cX11_empty 33 = .ok (.putfield 162, 3) := by decide +kernel
theorem dX11_empty_36 : decode cX11_empty 36 = .ok (.aload_n 0, 1) := by decide +kernel
theorem dX11_empty_37 : decode cX11_empty 37 = .ok (.getfield 16, 3) := by decide +kernel
theorem dX11_empty_40 : decode cX11_empty 40 = .ok (.iload_n 1, 1) := by decide +kernel
theorem dX11_empty_41 : decode cX11_empty 41 = .ok (.invokevirtual 168, 3) := by decide +kernel
theorem dX11_empty_44 : decode cX11_empty 44 = .ok (.aload_n 0, 1) := by decide +kernel
theorem dX11_empty_45 : decode cX11_empty 45 = .ok (.getfield 16, 3) := by decide +kernel
theorem dX11_empty_48 : decode cX11_empty 48 = .ok (.getfield 177, 3) := by decide +kernel
theorem dX11_empty_51 : decode cX11_empty 51 = .ok (.ifCond .ne 5, 3) := by decide +kernel
theorem dX11_empty_54 : decode cX11_empty 54 = .ok (.iload_n 2, 1) := by decide +kernel
theorem dX11_empty_55 : decode cX11_empty 55 = .ok (.ireturn, 1) := by decide +kernel
theorem dX11_empty_56 : decode cX11_empty 56 = .ok (.iinc 2 1, 3) := by decide +kernel
theorem dX11_empty_59 : decode cX11_empty 59 = .ok (.goto (-48), 3) := by decide +kernel
theorem dX11_empty_62 : decode cX11_empty 62 = .ok (.bipush (-4), 2) := by decide +kernel
theorem dX11_empty_64 : decode cX11_empty 64 = .ok (.ireturn, 1) := by decide +kernel
theorem dX11_tell_0 : decode cX11_tell 0 = .ok (.aload_n 0, 1) := by decide +kernel
theorem dX11_tell_1 : decode cX11_tell 1 = .ok (.getfield 10, 3) := by decide +kernel
theorem dX11_tell_4 : decode cX11_tell 4 = .ok (.iload_n 1, 1) := by decide +kernel
theorem dX11_tell_5 : decode cX11_tell 5 = .ok (.invokevirtual 84, 3) := by decide +kernel
theorem dX11_tell_8 : decode cX11_tell 8 = .ok (.ifCond .ne 5, 3) := by decide +kernel
theorem dX11_tell_11 : decode cX11_tell 11 = .ok (.iconst (-1), 1) := by decide +kernel
theorem dX11_tell_12 : decode cX11_tell 12 = .ok (.ireturn, 1) := by decide +kernel
theorem dX11_tell_13 : decode cX11_tell 13 = .ok (.aload_n 0, 1) := by decide +kernel
theorem dX11_tell_14 : decode cX11_tell 14 = .ok (.getfield 10, 3) := by decide +kernel
theorem dX11_tell_17 : decode cX11_tell 17 = .ok (.iload_n 1, 1) := by decide +kernel
theorem dX11_tell_18 : decode cX11_tell 18 = .ok (.invokevirtual 107, 3) := by decide +kernel
theorem dX11_tell_21 : decode cX11_tell 21 = .ok (.ifCond .ne 6, 3) := by decide +kernel
theorem dX11_tell_24 : decode cX11_tell 24 = .ok (.bipush (-3), 2) := by decide +kernel
theorem dX11_tell_26 : decode cX11_tell 26 = .ok (.ireturn, 1) := by decide +kernel
theorem dX11_tell_27 : decode cX11_tell 27 = .ok (.iconst 0, 1) := by decide +kernel
theorem dX11_tell_28 : decode cX11_tell 28 = .ok (.istore_n 2, 1) := by decide +kernel
theorem dX11_tell_29 : decode cX11_tell 29 = .ok (.iload_n 2, 1) := by decide +kernel
theorem dX11_tell_30 : decode cX11_tell 30 = .ok (.aload_n 0, 1) := by decide +kernel
theorem dX11_tell_31 : decode cX11_tell 31 = .ok (.getfield 10, 3) := by decide +kernel
theorem dX11_tell_34 : decode cX11_tell 34 = .ok (.getfield 101, 3) := by decide +kernel
theorem dX11_tell_37 : decode cX11_tell 37 = .ok (.iload_n 1, 1) := by decide +kernel
theorem dX11_tell_38 : decode cX11_tell 38 = .ok (.iaload, 1) := by decide +kernel
theorem dX11_tell_39 : decode cX11_tell 39 = .ok (.if_icmp .gt 51, 3) := by decide +kernel
theorem dX11_tell_42 : decode cX11_tell 42 = .ok (.aload_n 0, 1) := by decide +kernel
theorem dX11_tell_43 : decode cX11_tell 43 = .ok (.getfield 16, 3) := by decide +kernel
theorem dX11_tell_46 : decode cX11_tell 46 = .ok (.aload_n 0, 1) := by decide +kernel
theorem dX11_tell_47 : decode cX11_tell 47 = .ok (.getfield 10, 3) := by decide +kernel
theorem dX11_tell_50 : decode cX11_tell 50 = .ok (.invokevirtual 70, 3) := by decide +kernel
theorem dX11_tell_53 : decode cX11_tell 53 = .ok (.iconst 0, 1) := by decide +kernel
theorem dX11_tell_54 : decode cX11_tell 54 = .ok (.istore_n 3, 1) := by decide +kernel
theorem dX11_tell_55 : decode cX11_tell 55 = .ok (.iload_n 3, 1) := by decide +kernel
theorem dX11_tell_56 : decode cX11_tell 56 = .ok (.iload_n 2, 1) := by decide +kernel
theorem dX11_tell_57 : decode cX11_tell 57 = .ok (.if_icmp .ge 17, 3) := by decide +kernel
theorem dX11_tell_60 : decode cX11_tell 60 = .ok (.aload_n 0, 1) := by decide +kernel
theorem dX11_tell_61 : decode cX11_tell 61 = .ok (.getfield 16, 3) := by decide +kernel
theorem dX11_tell_64 : decode cX11_tell 64 = .ok (.iload_n 1, 1) := by decide +kernel
theorem dX11_tell_65 : decode cX11_tell 65 = .ok (.invokevirtual 140, 3) := by decide +kernel
theorem dX11_tell_68 : decode cX11_tell 68 = .ok (.iinc 3 1, 3) := by decide +kernel
theorem dX11_tell_71 : decode cX11_tell 71 = .ok (.goto (-16), 3) := by decide +kernel
theorem dX11_tell_74 : decode cX11_tell 74 = .ok (.aload_n 0, 1) := by decide +kernel
theorem dX11_tell_75 : decode cX11_tell 75 = .ok (.iload_n 1, 1) := by decide +kernel
theorem dX11_tell_76 : decode cX11_tell 76 = .ok (.invokevirtual 201, 3) := by decide +kernel
theorem dX11_tell_79 : decode cX11_tell 79 = .ok (.ifCond .eq 5, 3) := by decide +kernel
theorem dX11_tell_82 : decode cX11_tell 82 = .ok (.iload_n 2, 1) := by decide +kernel
theorem dX11_tell_83 : decode cX11_tell 83 = .ok (.ireturn, 1) := by decide +kernel
theorem dX11_tell_84 : decode cX11_tell 84 = .ok (.iinc 2 1, 3) := by decide +kernel
theorem dX11_tell_87 : decode cX11_tell 87 = .ok (.goto (-58), 3) := by decide +kernel
theorem dX11_tell_90 : decode cX11_tell 90 = .ok (.bipush (-4), 2) := by decide +kernel
theorem dX11_tell_92 : decode cX11_tell 92 = .ok (.ireturn, 1) := by decide +kernel
theorem dX11_loan_0 : decode cX11_loan 0 = .ok (.aload_n 0, 1) := by decide +kernel
theorem dX11_loan_1 : decode cX11_loan 1 = .ok (.iload_n 1, 1) := by decide +kernel
theorem dX11_loan_2 : decode cX11_loan 2 = .ok (.iload_n 2, 1) := by decide +kernel
theorem dX11_loan_3 : decode cX11_loan 3 = .ok (.invokevirtual 144, 3) := by decide +kernel
theorem dX11_loan_6 : decode cX11_loan 6 = .ok (.ifCond .ne 5, 3) := by decide +kernel
theorem dX11_loan_9 : decode cX11_loan 9 = .ok (.iconst (-1), 1) := by decide +kernel
theorem dX11_loan_10 : decode cX11_loan 10 = .ok (.ireturn, 1) := by decide +kernel
theorem dX11_loan_11 : decode cX11_loan 11 = .ok (.aload_n 0, 1) := by decide +kernel
theorem dX11_loan_12 : decode cX11_loan 12 = .ok (.getfield 10, 3) := by decide +kernel
theorem dX11_loan_15 : decode cX11_loan 15 = .ok (.iload_n 1, 1) := by decide +kernel
theorem dX11_loan_16 : decode cX11_loan 16 = .ok (.invokevirtual 107, 3) := by decide +kernel
theorem dX11_loan_19 : decode cX11_loan 19 = .ok (.ifCond .eq 14, 3) := by decide +kernel
theorem dX11_loan_22 : decode cX11_loan 22 = .ok (.aload_n 0, 1) := by decide +kernel
theorem dX11_loan_23 : decode cX11_loan 23 = .ok (.getfield 10, 3) := by decide +kernel
theorem dX11_loan_26 : decode cX11_loan 26 = .ok (.iload_n 2, 1) := by decide +kernel
theorem dX11_loan_27 : decode cX11_loan 27 = .ok (.invokevirtual 107, 3) := by decide +kernel
theorem dX11_loan_30 : decode cX11_loan 30 = .ok (.ifCond .ne 6, 3) := by decide +kernel
theorem dX11_loan_33 : decode cX11_loan 33 = .ok (.bipush (-3), 2) := by decide +kernel
theorem dX11_loan_35 : decode cX11_loan 35 = .ok (.ireturn, 1) := by decide +kernel
theorem dX11_loan_36 : decode cX11_loan 36 = .ok (.aload_n 0, 1) := by decide +kernel
theorem dX11_loan_37 : decode cX11_loan 37 = .ok (.getfield 16, 3) := by decide +kernel
theorem dX11_loan_40 : decode cX11_loan 40 = .ok (.aload_n 0, 1) := by decide +kernel
theorem dX11_loan_41 : decode cX11_loan 41 = .ok (.getfield 10, 3) := by decide +kernel
theorem dX11_loan_44 : decode cX11_loan 44 = .ok (.invokevirtual 70, 3) := by decide +kernel
theorem dX11_loan_47 : decode cX11_loan 47 = .ok (.aload_n 0, 1) := by decide +kernel
theorem dX11_loan_48 : decode cX11_loan 48 = .ok (.iload_n 1, 1) := by decide +kernel
theorem dX11_loan_49 : decode cX11_loan 49 = .ok (.invokevirtual 201, 3) := by decide +kernel
theorem dX11_loan_52 : decode cX11_loan 52 = .ok (.ifCond .eq 5, 3) := by decide +kernel
theorem dX11_loan_55 : decode cX11_loan 55 = .ok (.iconst 0, 1) := by decide +kernel
theorem dX11_loan_56 : decode cX11_loan 56 = .ok (.ireturn, 1) := by decide +kernel
theorem dX11_loan_57 : decode cX11_loan 57 = .ok (.iconst 1, 1) := by decide +kernel
theorem dX11_loan_58 : decode cX11_loan 58 = .ok (.istore_n 3, 1) := by decide +kernel
theorem dX11_loan_59 : decode cX11_loan 59 = .ok (.iload_n 3, 1) := by decide +kernel
theorem dX11_loan_60 : decode cX11_loan 60 = .ok (.bipush 20, 2) := by decide +kernel
theorem dX11_loan_62 : decode cX11_loan 62 = .ok (.if_icmp .gt 53, 3) := by decide +kernel
theorem dX11_loan_65 : decode cX11_loan 65 = .ok (.aload_n 0, 1) := by decide +kernel
theorem dX11_loan_66 : decode cX11_loan 66 = .ok (.getfield 10, 3) := by decide +kernel
theorem dX11_loan_69 : decode cX11_loan 69 = .ok (.iload_n 1, 1) := by decide +kernel
theorem dX11_loan_70 : decode cX11_loan 70 = .ok (.iload_n 2, 1) := by decide +kernel
theorem dX11_loan_71 : decode cX11_loan 71 = .ok (.iload_n 3, 1) := by decide +kernel
theorem dX11_loan_72 : decode cX11_loan 72 = .ok (.invokevirtual 148, 3) := by decide +kernel
theorem dX11_loan_75 : decode cX11_loan 75 = .ok (.ifCond .eq 40, 3) := by decide +kernel
theorem dX11_loan_78 : decode cX11_loan 78 = .ok (.aload_n 0, 1) := by decide +kernel
theorem dX11_loan_79 : decode cX11_loan 79 = .ok (.getfield 16, 3) := by decide +kernel
theorem dX11_loan_82 : decode cX11_loan 82 = .ok (.aload_n 0, 1) := by decide +kernel
theorem dX11_loan_83 : decode cX11_loan 83 = .ok (.getfield 10, 3) := by decide +kernel
theorem dX11_loan_86 : decode cX11_loan 86 = .ok (.invokevirtual 70, 3) := by decide +kernel
theorem dX11_loan_89 : decode cX11_loan 89 = .ok (.aload_n 0, 1) := by decide +kernel
theorem dX11_loan_90 : decode cX11_loan 90 = .ok (.getfield 16, 3) := by decide +kernel
theorem dX11_loan_93 : decode cX11_loan 93 = .ok (.iload_n 1, 1) := by decide +kernel
theorem dX11_loan_94 : decode cX11_loan 94 = .ok (.iload_n 2, 1) := by decide +kernel
theorem dX11_loan_95 : decode cX11_loan 95 = .ok (.iload_n 3, 1) := by decide +kernel
theorem dX11_loan_96 : decode cX11_loan 96 = .ok (.invokevirtual 152, 3) := by decide +kernel
theorem dX11_loan_99 : decode cX11_loan 99 = .ok (.aload_n 0, 1) := by decide +kernel
theorem dX11_loan_100 : decode cX11_loan 100 = .ok (.iload_n 1, 1) := by decide +kernel
theorem dX11_loan_101 : decode cX11_loan 101 = .ok (.invokevirtual 201, 3) := by decide +kernel
theorem dX11_loan_104 : decode cX11_loan 104 = .ok (.ifCond .eq 5, 3) := by decide +kernel
theorem dX11_loan_107 : decode cX11_loan 107 = .ok (.iload_n 3, 1) := by decide +kernel
theorem dX11_loan_108 : decode cX11_loan 108 = .ok (.ireturn, 1) := by decide +kernel
theorem dX11_loan_109 : decode cX11_loan 109 = .ok (.iinc 3 1, 3) := by decide +kernel
theorem dX11_loan_112 : decode cX11_loan 112 = .ok (.goto (-53), 3) := by decide +kernel
theorem dX11_loan_115 : decode cX11_loan 115 = .ok (.bipush (-4), 2) := by decide +kernel
theorem dX11_loan_117 : decode cX11_loan 117 = .ok (.ireturn, 1) := by decide +kernel
theorem dX11_waits_0 : decode cX11_waits 0 = .ok (.iload_n 1, 1) := by decide +kernel
theorem dX11_waits_1 : decode cX11_waits 1 = .ok (.invokestatic 174, 3) := by decide +kernel
theorem dX11_waits_4 : decode cX11_waits 4 = .ok (.ifCond .ne 5, 3) := by decide +kernel
theorem dX11_waits_7 : decode cX11_waits 7 = .ok (.iconst (-1), 1) := by decide +kernel
theorem dX11_waits_8 : decode cX11_waits 8 = .ok (.ireturn, 1) := by decide +kernel
theorem dX11_waits_9 : decode cX11_waits 9 = .ok (.aload_n 0, 1) := by decide +kernel
theorem dX11_waits_10 : decode cX11_waits 10 = .ok (.getfield 16, 3) := by decide +kernel
theorem dX11_waits_13 : decode cX11_waits 13 = .ok (.aload_n 0, 1) := by decide +kernel
theorem dX11_waits_14 : decode cX11_waits 14 = .ok (.getfield 10, 3) := by decide +kernel
theorem dX11_waits_17 : decode cX11_waits 17 = .ok (.invokevirtual 70, 3) := by decide +kernel
theorem dX11_waits_20 : decode cX11_waits 20 = .ok (.aload_n 0, 1) := by decide +kernel
theorem dX11_waits_21 : decode cX11_waits 21 = .ok (.getfield 16, 3) := by decide +kernel
theorem dX11_waits_24 : decode cX11_waits 24 = .ok (.iload_n 1, 1) := by decide +kernel
theorem dX11_waits_25 : decode cX11_waits 25 = .ok (.invokevirtual 168, 3) := by decide +kernel
theorem dX11_waits_28 : decode cX11_waits 28 = .ok (.aload_n 0, 1) := by decide +kernel
theorem dX11_waits_29 : decode cX11_waits 29 = .ok (.getfield 16, 3) := by decide +kernel
theorem dX11_waits_32 : decode cX11_waits 32 = .ok (.getfield 171, 3) := by decide +kernel
theorem dX11_waits_35 : decode cX11_waits 35 = .ok (.istore_n 2, 1) := by decide +kernel
theorem dX11_waits_36 : decode cX11_waits 36 = .ok (.bipush (-4), 2) := by decide +kernel
theorem dX11_waits_38 : decode cX11_waits 38 = .ok (.istore_n 3, 1) := by decide +kernel
theorem dX11_waits_39 : decode cX11_waits 39 = .ok (.iconst 0, 1) := by decide +kernel
theorem dX11_waits_40 : decode cX11_waits 40 = .ok (.istore 4, 2) := by decide +kernel
theorem dX11_waits_42 : decode cX11_waits 42 = .ok (.iload 4, 2) := by decide +kernel
theorem dX11_waits_44 : decode cX11_waits 44 = .ok (.aload_n 0, 1) := by decide +kernel
theorem dX11_waits_45 : decode cX11_waits 45 = .ok (.getfield 10, 3) := by decide +kernel
theorem dX11_waits_48 : decode cX11_waits 48 = .ok (.getfield 134, 3) := by decide +kernel
theorem dX11_waits_51 : decode cX11_waits 51 = .ok (.if_icmp .ge 79, 3) := by decide +kernel
theorem dX11_waits_54 : decode cX11_waits 54 = .ok (.aload_n 0, 1) := by decide +kernel
theorem dX11_waits_55 : decode cX11_waits 55 = .ok (.getfield 10, 3) := by decide +kernel
theorem dX11_waits_58 : decode cX11_waits 58 = .ok (.iload 4, 2) := by decide +kernel
theorem dX11_waits_60 : decode cX11_waits 60 = .ok (.invokevirtual 107, 3) := by decide +kernel
theorem dX11_waits_63 : decode cX11_waits 63 = .ok (.ifCond .ne 6, 3) := by decide +kernel
theorem dX11_waits_66 : decode cX11_waits 66 = .ok (.goto 58, 3) := by decide +kernel
theorem dX11_waits_69 : decode cX11_waits 69 = .ok (.aload_n 0, 1) := by decide +kernel
theorem dX11_waits_70 : decode cX11_waits 70 = .ok (.getfield 16, 3) := by decide +kernel
theorem dX11_waits_73 : decode cX11_waits 73 = .ok (.aload_n 0, 1) := by decide +kernel
theorem dX11_waits_74 : decode cX11_waits 74 = .ok (.getfield 10, 3) := by decide +kernel
theorem dX11_waits_77 : decode cX11_waits 77 = .ok (.invokevirtual 70, 3) := by decide +kernel
theorem dX11_waits_80 : decode cX11_waits 80 = .ok (.aload_n 0, 1) := by decide +kernel
theorem dX11_waits_81 : decode cX11_waits 81 = .ok (.getfield 16, 3) := by decide +kernel
theorem dX11_waits_84 : decode cX11_waits 84 = .ok (.getfield 104, 3) := by decide +kernel
theorem dX11_waits_87 : decode cX11_waits 87 = .ok (.iload 4, 2) := by decide +kernel
theorem dX11_waits_89 : decode cX11_waits 89 = .ok (.dup2, 1) := by decide +kernel
theorem dX11_waits_90 : decode cX11_waits 90 = .ok (.iaload, 1) := by decide +kernel
theorem dX11_waits_91 : decode cX11_waits 91 = .ok (.iconst 5, 1) := by decide +kernel
theorem dX11_waits_92 : decode cX11_waits 92 = .ok (.iadd, 1) := by decide +kernel
theorem dX11_waits_93 : decode cX11_waits 93 = .ok (.iastore, 1) := by decide +kernel
theorem dX11_waits_94 : decode cX11_waits 94 = .ok (.aload_n 0, 1) := by decide +kernel
theorem dX11_waits_95 : decode cX11_waits 95 = .ok (.getfield 16, 3) := by decide +kernel
theorem dX11_waits_98 : decode cX11_waits 98 = .ok (.iload_n 1, 1) := by decide +kernel
theorem dX11_waits_99 : decode cX11_waits 99 = .ok (.invokevirtual 168, 3) := by decide +kernel
theorem dX11_waits_102 : decode cX11_waits 102 = .ok (.aload_n 0, 1) := by decide +kernel
theorem dX11_waits_103 : decode cX11_waits 103 = .ok (.getfield 16, 3) := by decide +kernel
theorem dX11_waits_106 : decode cX11_waits 106 = .ok (.getfield 171, 3) := by decide +kernel
theorem dX11_waits_109 : decode cX11_waits 109 = .ok (.iload_n 2, 1) := by decide +kernel
theorem dX11_waits_110 : decode cX11_waits 110 = .ok (.if_icmp .le 14, 3) := by decide +kernel
theorem dX11_waits_113 : decode cX11_waits 113 = .ok (.aload_n 0, 1) := by decide +kernel
theorem dX11_waits_114 : decode cX11_waits 114 = .ok (.getfield 16, 3) := by decide +kernel
theorem dX11_waits_117 : decode cX11_waits 117 = .ok (.getfield 171, 3) := by decide +kernel
theorem dX11_waits_120 : decode cX11_waits 120 = .ok (.istore_n 2, 1) := by decide +kernel
theorem dX11_waits_121 : decode cX11_waits 121 = .ok (.iload 4, 2) := by decide +kernel
theorem dX11_waits_123 : decode cX11_waits 123 = .ok (.istore_n 3, 1) := by decide +kernel
theorem dX11_waits_124 : decode cX11_waits 124 = .ok (.iinc 4 1, 3) := by decide +kernel
theorem dX11_waits_127 : decode cX11_waits 127 = .ok (.goto (-85), 3) := by decide +kernel
theorem dX11_waits_130 : decode cX11_waits 130 = .ok (.iload_n 3, 1) := by decide +kernel
theorem dX11_waits_131 : decode cX11_waits 131 = .ok (.ireturn, 1) := by decide +kernel
theorem dX11_pairs_0 : decode cX11_pairs 0 = .ok (.iload_n 1, 1) := by decide +kernel
theorem dX11_pairs_1 : decode cX11_pairs 1 = .ok (.iconst (-1), 1) := by decide +kernel
theorem dX11_pairs_2 : decode cX11_pairs 2 = .ok (.if_icmp .eq 16, 3) := by decide +kernel
theorem dX11_pairs_5 : decode cX11_pairs 5 = .ok (.aload_n 0, 1) := by decide +kernel
theorem dX11_pairs_6 : decode cX11_pairs 6 = .ok (.getfield 10, 3) := by decide +kernel
theorem dX11_pairs_9 : decode cX11_pairs 9 = .ok (.iload_n 1, 1) := by decide +kernel
theorem dX11_pairs_10 : decode cX11_pairs 10 = .ok (.invokevirtual 84, 3) := by decide +kernel
theorem dX11_pairs_13 : decode cX11_pairs 13 = .ok (.ifCond .ne 5, 3) := by decide +kernel
theorem dX11_pairs_16 : decode cX11_pairs 16 = .ok (.iconst (-1), 1) := by decide +kernel
theorem dX11_pairs_17 : decode cX11_pairs 17 = .ok (.ireturn, 1) := by decide +kernel
theorem dX11_pairs_18 : decode cX11_pairs 18 = .ok (.aload_n 0, 1) := by decide +kernel
theorem dX11_pairs_19 : decode cX11_pairs 19 = .ok (.invokevirtual 204, 3) := by decide +kernel
theorem dX11_pairs_22 : decode cX11_pairs 22 = .ok (.iload_n 1, 1) := by decide +kernel
theorem dX11_pairs_23 : decode cX11_pairs 23 = .ok (.iconst (-1), 1) := by decide +kernel
theorem dX11_pairs_24 : decode cX11_pairs 24 = .ok (.if_icmp .ne 18, 3) := by decide +kernel
theorem dX11_pairs_27 : decode cX11_pairs 27 = .ok (.aload_n 0, 1) := by decide +kernel
theorem dX11_pairs_28 : decode cX11_pairs 28 = .ok (.getfield 42, 3) := by decide +kernel
theorem dX11_pairs_31 : decode cX11_pairs 31 = .ok (.aload_n 0, 1) := by decide +kernel
theorem dX11_pairs_32 : decode cX11_pairs 32 = .ok (.getfield 10, 3) := by decide +kernel
theorem dX11_pairs_35 : decode cX11_pairs 35 = .ok (.getfield 177, 3) := by decide +kernel
theorem dX11_pairs_38 : decode cX11_pairs 38 = .ok (.iaload, 1) := by decide +kernel
theorem dX11_pairs_39 : decode cX11_pairs 39 = .ok (.goto 8, 3) := by decide +kernel
theorem dX11_pairs_42 : decode cX11_pairs 42 = .ok (.aload_n 0, 1) := by decide +kernel
theorem dX11_pairs_43 : decode cX11_pairs 43 = .ok (.iload_n 1, 1) := by decide +kernel
theorem dX11_pairs_44 : decode cX11_pairs 44 = .ok (.invokevirtual 207, 3) := by decide +kernel
theorem dX11_pairs_47 : decode cX11_pairs 47 = .ok (.ireturn, 1) := by decide +kernel
theorem dX11_ledger_0 : decode cX11_ledger 0 = .ok (.aload_n 0, 1) := by decide +kernel
theorem dX11_ledger_1 : decode cX11_ledger 1 = .ok (.getfield 10, 3) := by decide +kernel
theorem dX11_ledger_4 : decode cX11_ledger 4 = .ok (.invokevirtual 210, 3) := by decide +kernel
theorem dX11_ledger_7 : decode cX11_ledger 7 = .ok (.ireturn, 1) := by decide +kernel
theorem dX11_tears_0 : decode cX11_tears 0 = .ok (.iload_n 1, 1) := by decide +kernel
theorem dX11_tears_1 : decode cX11_tears 1 = .ok (.tableswitch 60 0 3 #[31, 39, 47, 52], 31) := by decide +kernel
theorem dX11_tears_32 : decode cX11_tears 32 = .ok (.aload_n 0, 1) := by decide +kernel
theorem dX11_tears_33 : decode cX11_tears 33 = .ok (.getfield 10, 3) := by decide +kernel
theorem dX11_tears_36 : decode cX11_tears 36 = .ok (.invokevirtual 213, 3) := by decide +kernel
theorem dX11_tears_39 : decode cX11_tears 39 = .ok (.ireturn, 1) := by decide +kernel
theorem dX11_tears_40 : decode cX11_tears 40 = .ok (.aload_n 0, 1) := by decide +kernel
theorem dX11_tears_41 : decode cX11_tears 41 = .ok (.getfield 10, 3) := by decide +kernel
theorem dX11_tears_44 : decode cX11_tears 44 = .ok (.invokevirtual 216, 3) := by decide +kernel
theorem dX11_tears_47 : decode cX11_tears 47 = .ok (.ireturn, 1) := by decide +kernel
theorem dX11_tears_48 : decode cX11_tears 48 = .ok (.aload_n 0, 1) := by decide +kernel
theorem dX11_tears_49 : decode cX11_tears 49 = .ok (.invokevirtual 219, 3) := by decide +kernel
theorem dX11_tears_52 : decode cX11_tears 52 = .ok (.ireturn, 1) := by decide +kernel
theorem dX11_tears_53 : decode cX11_tears 53 = .ok (.aload_n 0, 1) := by decide +kernel
theorem dX11_tears_54 : decode cX11_tears 54 = .ok (.getfield 10, 3) := by decide +kernel
theorem dX11_tears_57 : decode cX11_tears 57 = .ok (.invokevirtual 222, 3) := by decide +kernel
theorem dX11_tears_60 : decode cX11_tears 60 = .ok (.ireturn, 1) := by decide +kernel
theorem dX11_tears_61 : decode cX11_tears 61 = .ok (.iconst (-1), 1) := by decide +kernel
theorem dX11_tears_62 : decode cX11_tears 62 = .ok (.ireturn, 1) := by decide +kernel
theorem dX11_goesNextDay_0 : decode cX11_goesNextDay 0 = .ok (.aload_n 0, 1) := by decide +kernel
theorem dX11_goesNextDay_1 : decode cX11_goesNextDay 1 = .ok (.getfield 16, 3) := by decide +kernel
theorem dX11_goesNextDay_4 : decode cX11_goesNextDay 4 = .ok (.iload_n 1, 1) := by decide +kernel
theorem dX11_goesNextDay_5 : decode cX11_goesNextDay 5 = .ok (.invokevirtual 186, 3) := by decide +kernel
theorem dX11_goesNextDay_8 : decode cX11_goesNextDay 8 = .ok (.aload_n 0, 1) := by decide +kernel
theorem dX11_goesNextDay_9 : decode cX11_goesNextDay 9 = .ok (.getfield 16, 3) := by decide +kernel
theorem dX11_goesNextDay_12 : decode cX11_goesNextDay 12 = .ok (.iload_n 1, 1) := by decide +kernel
theorem dX11_goesNextDay_13 : decode cX11_goesNextDay 13 = .ok (.invokevirtual 107, 3) := by decide +kernel
theorem dX11_goesNextDay_16 : decode cX11_goesNextDay 16 = .ok (.ifCond .ne 7, 3) := by decide +kernel
theorem dX11_goesNextDay_19 : decode cX11_goesNextDay 19 = .ok (.iconst 1, 1) := by decide +kernel
theorem dX11_goesNextDay_20 : decode cX11_goesNextDay 20 = .ok (.goto 4, 3) := by decide +kernel
theorem dX11_goesNextDay_23 : decode cX11_goesNextDay 23 = .ok (.iconst 0, 1) := by decide +kernel
theorem dX11_goesNextDay_24 : decode cX11_goesNextDay 24 = .ok (.ireturn, 1) := by decide +kernel
theorem dX11_goneNextDay_0 : decode cX11_goneNextDay 0 = .ok (.aload_n 0, 1) := by decide +kernel
theorem dX11_goneNextDay_1 : decode cX11_goneNextDay 1 = .ok (.getfield 16, 3) := by decide +kernel
theorem dX11_goneNextDay_4 : decode cX11_goneNextDay 4 = .ok (.aload_n 0, 1) := by decide +kernel
theorem dX11_goneNextDay_5 : decode cX11_goneNextDay 5 = .ok (.getfield 10, 3) := by decide +kernel
theorem dX11_goneNextDay_8 : decode cX11_goneNextDay 8 = .ok (.invokevirtual 70, 3) := by decide +kernel
theorem dX11_goneNextDay_11 : decode cX11_goneNextDay 11 = .ok (.aload_n 0, 1) := by decide +kernel
theorem dX11_goneNextDay_12 : decode cX11_goneNextDay 12 = .ok (.getfield 16, 3) := by decide +kernel
theorem dX11_goneNextDay_15 : decode cX11_goneNextDay 15 = .ok (.invokevirtual 195, 3) := by decide +kernel
theorem dX11_goneNextDay_18 : decode cX11_goneNextDay 18 = .ok (.aload_n 0, 1) := by decide +kernel
theorem dX11_goneNextDay_19 : decode cX11_goneNextDay 19 = .ok (.getfield 10, 3) := by decide +kernel
theorem dX11_goneNextDay_22 : decode cX11_goneNextDay 22 = .ok (.getfield 177, 3) := by decide +kernel
theorem dX11_goneNextDay_25 : decode cX11_goneNextDay 25 = .ok (.aload_n 0, 1) := by decide +kernel
theorem dX11_goneNextDay_26 : decode cX11_goneNextDay 26 = .ok (.getfield 16, 3) := by decide +kernel
theorem dX11_goneNextDay_29 : decode cX11_goneNextDay 29 = .ok (.getfield 177, 3) := by decide +kernel
theorem dX11_goneNextDay_32 : decode cX11_goneNextDay 32 = .ok (.iconst (-1), 1) := by decide +kernel
theorem dX11_goneNextDay_33 : decode cX11_goneNextDay 33 = .ok (.ixor, 1) := by decide +kernel
theorem dX11_goneNextDay_34 : decode cX11_goneNextDay 34 = .ok (.iand, 1) := by decide +kernel
theorem dX11_goneNextDay_35 : decode cX11_goneNextDay 35 = .ok (.ireturn, 1) := by decide +kernel
theorem dX11_planPairs_0 : decode cX11_planPairs 0 = .ok (.aload_n 0, 1) := by decide +kernel
theorem dX11_planPairs_1 : decode cX11_planPairs 1 = .ok (.invokevirtual 219, 3) := by decide +kernel
theorem dX11_planPairs_4 : decode cX11_planPairs 4 = .ok (.istore_n 1, 1) := by decide +kernel
theorem dX11_planPairs_5 : decode cX11_planPairs 5 = .ok (.iconst 0, 1) := by decide +kernel
theorem dX11_planPairs_6 : decode cX11_planPairs 6 = .ok (.istore_n 2, 1) := by decide +kernel
theorem dX11_planPairs_7 : decode cX11_planPairs 7 = .ok (.iload_n 2, 1) := by decide +kernel
theorem dX11_planPairs_8 : decode cX11_planPairs 8 = .ok (.aload_n 0, 1) := by decide +kernel
theorem dX11_planPairs_9 : decode cX11_planPairs 9 = .ok (.getfield 10, 3) := by decide +kernel
theorem dX11_planPairs_12 : decode cX11_planPairs 12 = .ok (.getfield 134, 3) := by decide +kernel
theorem dX11_planPairs_15 : decode cX11_planPairs 15 = .ok (.if_icmp .ge 72, 3) := by decide +kernel
theorem dX11_planPairs_18 : decode cX11_planPairs 18 = .ok (.aload_n 0, 1) := by decide +kernel
theorem dX11_planPairs_19 : decode cX11_planPairs 19 = .ok (.getfield 38, 3) := by decide +kernel
theorem dX11_planPairs_22 : decode cX11_planPairs 22 = .ok (.iload_n 2, 1) := by decide +kernel
theorem dX11_planPairs_23 : decode cX11_planPairs 23 = .ok (.bipush 7, 2) := by decide +kernel
theorem dX11_planPairs_25 : decode cX11_planPairs 25 = .ok (.imul, 1) := by decide +kernel
theorem dX11_planPairs_26 : decode cX11_planPairs 26 = .ok (.iload_n 2, 1) := by decide +kernel
theorem dX11_planPairs_27 : decode cX11_planPairs 27 = .ok (.iadd, 1) := by decide +kernel
theorem dX11_planPairs_28 : decode cX11_planPairs 28 = .ok (.iload_n 1, 1) := by decide +kernel
theorem dX11_planPairs_29 : decode cX11_planPairs 29 = .ok (.iload_n 2, 1) := by decide +kernel
theorem dX11_planPairs_30 : decode cX11_planPairs 30 = .ok (.ishr, 1) := by decide +kernel
theorem dX11_planPairs_31 : decode cX11_planPairs 31 = .ok (.iconst 1, 1) := by decide +kernel
theorem dX11_planPairs_32 : decode cX11_planPairs 32 = .ok (.iand, 1) := by decide +kernel
theorem dX11_planPairs_33 : decode cX11_planPairs 33 = .ok (.iastore, 1) := by decide +kernel
theorem dX11_planPairs_34 : decode cX11_planPairs 34 = .ok (.iload_n 2, 1) := by decide +kernel
theorem dX11_planPairs_35 : decode cX11_planPairs 35 = .ok (.iconst 1, 1) := by decide +kernel
theorem dX11_planPairs_36 : decode cX11_planPairs 36 = .ok (.iadd, 1) := by decide +kernel
theorem dX11_planPairs_37 : decode cX11_planPairs 37 = .ok (.istore_n 3, 1) := by decide +kernel
theorem dX11_planPairs_38 : decode cX11_planPairs 38 = .ok (.iload_n 3, 1) := by decide +kernel
theorem dX11_planPairs_39 : decode cX11_planPairs 39 = .ok (.aload_n 0, 1) := by decide +kernel
theorem dX11_planPairs_40 : decode cX11_planPairs 40 = .ok (.getfield 10, 3) := by decide +kernel
theorem dX11_planPairs_43 : decode cX11_planPairs 43 = .ok (.getfield 134, 3) := by decide +kernel
theorem dX11_planPairs_46 : decode cX11_planPairs 46 = .ok (.if_icmp .ge 35, 3) := by decide +kernel
theorem dX11_planPairs_49 : decode cX11_planPairs 49 = .ok (.aload_n 0, 1) := by decide +kernel
theorem dX11_planPairs_50 : decode cX11_planPairs 50 = .ok (.getfield 38, 3) := by decide +kernel
theorem dX11_planPairs_53 : decode cX11_planPairs 53 = .ok (.iload_n 2, 1) := by decide +kernel
theorem dX11_planPairs_54 : decode cX11_planPairs 54 = .ok (.bipush 7, 2) := by decide +kernel
theorem dX11_planPairs_56 : decode cX11_planPairs 56 = .ok (.imul, 1) := by decide +kernel
theorem dX11_planPairs_57 : decode cX11_planPairs 57 = .ok (.iload_n 3, 1) := by decide +kernel
theorem dX11_planPairs_58 : decode cX11_planPairs 58 = .ok (.iadd, 1) := by decide +kernel
theorem dX11_planPairs_59 : decode cX11_planPairs 59 = .ok (.aload_n 0, 1) := by decide +kernel
theorem dX11_planPairs_60 : decode cX11_planPairs 60 = .ok (.iload_n 2, 1) := by decide +kernel
theorem dX11_planPairs_61 : decode cX11_planPairs 61 = .ok (.iload_n 3, 1) := by decide +kernel
theorem dX11_planPairs_62 : decode cX11_planPairs 62 = .ok (.invokevirtual 225, 3) := by decide +kernel
theorem dX11_planPairs_65 : decode cX11_planPairs 65 = .ok (.aload_n 0, 1) := by decide +kernel
theorem dX11_planPairs_66 : decode cX11_planPairs 66 = .ok (.iload_n 3, 1) := by decide +kernel
theorem dX11_planPairs_67 : decode cX11_planPairs 67 = .ok (.iload_n 2, 1) := by decide +kernel
theorem dX11_planPairs_68 : decode cX11_planPairs 68 = .ok (.invokevirtual 225, 3) := by decide +kernel
theorem dX11_planPairs_71 : decode cX11_planPairs 71 = .ok (.invokestatic 229, 3) := by decide +kernel
theorem dX11_planPairs_74 : decode cX11_planPairs 74 = .ok (.iastore, 1) := by decide +kernel
theorem dX11_planPairs_75 : decode cX11_planPairs 75 = .ok (.iinc 3 1, 3) := by decide +kernel
theorem dX11_planPairs_78 : decode cX11_planPairs 78 = .ok (.goto (-40), 3) := by decide +kernel
theorem dX11_planPairs_81 : decode cX11_planPairs 81 = .ok (.iinc 2 1, 3) := by decide +kernel
theorem dX11_planPairs_84 : decode cX11_planPairs 84 = .ok (.goto (-77), 3) := by decide +kernel
theorem dX11_planPairs_87 : decode cX11_planPairs 87 = .ok (.aload_n 0, 1) := by decide +kernel
theorem dX11_planPairs_88 : decode cX11_planPairs 88 = .ok (.getfield 42, 3) := by decide +kernel
theorem dX11_planPairs_91 : decode cX11_planPairs 91 = .ok (.iconst 0, 1) := by decide +kernel
theorem dX11_planPairs_92 : decode cX11_planPairs 92 = .ok (.iconst 0, 1) := by decide +kernel
theorem dX11_planPairs_93 : decode cX11_planPairs 93 = .ok (.iastore, 1) := by decide +kernel
theorem dX11_planPairs_94 : decode cX11_planPairs 94 = .ok (.iconst 1, 1) := by decide +kernel
theorem dX11_planPairs_95 : decode cX11_planPairs 95 = .ok (.istore_n 2, 1) := by decide +kernel
theorem dX11_planPairs_96 : decode cX11_planPairs 96 = .ok (.iload_n 2, 1) := by decide +kernel
theorem dX11_planPairs_97 : decode cX11_planPairs 97 = .ok (.aload_n 0, 1) := by decide +kernel
theorem dX11_planPairs_98 : decode cX11_planPairs 98 = .ok (.getfield 10, 3) := by decide +kernel
theorem dX11_planPairs_101 : decode cX11_planPairs 101 = .ok (.getfield 177, 3) := by decide +kernel
theorem dX11_planPairs_104 : decode cX11_planPairs 104 = .ok (.if_icmp .gt 34, 3) := by decide +kernel
theorem dX11_planPairs_107 : decode cX11_planPairs 107 = .ok (.iload_n 2, 1) := by decide +kernel
theorem dX11_planPairs_108 : decode cX11_planPairs 108 = .ok (.aload_n 0, 1) := by decide +kernel
theorem dX11_planPairs_109 : decode cX11_planPairs 109 = .ok (.getfield 10, 3) := by decide +kernel
theorem dX11_planPairs_112 : decode cX11_planPairs 112 = .ok (.getfield 177, 3) := by decide +kernel
theorem dX11_planPairs_115 : decode cX11_planPairs 115 = .ok (.iconst (-1), 1) := by decide +kernel
theorem dX11_planPairs_116 : decode cX11_planPairs 116 = .ok (.ixor, 1) := by decide +kernel
theorem dX11_planPairs_117 : decode cX11_planPairs 117 = .ok (.iand, 1) := by decide +kernel
theorem dX11_planPairs_118 : decode cX11_planPairs 118 = .ok (.ifCond .ne 14, 3) := by decide +kernel
theorem dX11_planPairs_121 : decode cX11_planPairs 121 = .ok (.aload_n 0, 1) := by decide +kernel
theorem dX11_planPairs_122 : decode cX11_planPairs 122 = .ok (.getfield 42, 3) := by decide +kernel
theorem dX11_planPairs_125 : decode cX11_planPairs 125 = .ok (.iload_n 2, 1) := by decide +kernel
theorem dX11_planPairs_126 : decode cX11_planPairs 126 = .ok (.aload_n 0, 1) := by decide +kernel
theorem dX11_planPairs_127 : decode cX11_planPairs 127 = .ok (.iload_n 2, 1) := by decide +kernel
theorem dX11_planPairs_128 : decode cX11_planPairs 128 = .ok (.invokevirtual 234, 3) := by decide +kernel
theorem dX11_planPairs_131 : decode cX11_planPairs 131 = .ok (.iastore, 1) := by decide +kernel
theorem dX11_planPairs_132 : decode cX11_planPairs 132 = .ok (.iinc 2 1, 3) := by decide +kernel
theorem dX11_planPairs_135 : decode cX11_planPairs 135 = .ok (.goto (-39), 3) := by decide +kernel
theorem dX11_planPairs_138 : decode cX11_planPairs 138 = .ok (.return_, 1) := by decide +kernel
theorem dX11_goneIfLent_0 : decode cX11_goneIfLent 0 = .ok (.aload_n 0, 1) := by decide +kernel
theorem dX11_goneIfLent_1 : decode cX11_goneIfLent 1 = .ok (.getfield 10, 3) := by decide +kernel
theorem dX11_goneIfLent_4 : decode cX11_goneIfLent 4 = .ok (.iload_n 1, 1) := by decide +kernel
theorem dX11_goneIfLent_5 : decode cX11_goneIfLent 5 = .ok (.iload_n 2, 1) := by decide +kernel
theorem dX11_goneIfLent_6 : decode cX11_goneIfLent 6 = .ok (.iconst 5, 1) := by decide +kernel
theorem dX11_goneIfLent_7 : decode cX11_goneIfLent 7 = .ok (.invokevirtual 148, 3) := by decide +kernel
theorem dX11_goneIfLent_10 : decode cX11_goneIfLent 10 = .ok (.ifCond .ne 5, 3) := by decide +kernel
theorem dX11_goneIfLent_13 : decode cX11_goneIfLent 13 = .ok (.iconst (-1), 1) := by decide +kernel
theorem dX11_goneIfLent_14 : decode cX11_goneIfLent 14 = .ok (.ireturn, 1) := by decide +kernel
theorem dX11_goneIfLent_15 : decode cX11_goneIfLent 15 = .ok (.aload_n 0, 1) := by decide +kernel
theorem dX11_goneIfLent_16 : decode cX11_goneIfLent 16 = .ok (.getfield 16, 3) := by decide +kernel
theorem dX11_goneIfLent_19 : decode cX11_goneIfLent 19 = .ok (.aload_n 0, 1) := by decide +kernel
theorem dX11_goneIfLent_20 : decode cX11_goneIfLent 20 = .ok (.getfield 10, 3) := by decide +kernel
theorem dX11_goneIfLent_23 : decode cX11_goneIfLent 23 = .ok (.invokevirtual 70, 3) := by decide +kernel
theorem dX11_goneIfLent_26 : decode cX11_goneIfLent 26 = .ok (.aload_n 0, 1) := by decide +kernel
theorem dX11_goneIfLent_27 : decode cX11_goneIfLent 27 = .ok (.getfield 16, 3) := by decide +kernel
theorem dX11_goneIfLent_30 : decode cX11_goneIfLent 30 = .ok (.iload_n 1, 1) := by decide +kernel
theorem dX11_goneIfLent_31 : decode cX11_goneIfLent 31 = .ok (.iload_n 2, 1) := by decide +kernel
theorem dX11_goneIfLent_32 : decode cX11_goneIfLent 32 = .ok (.iconst 5, 1) := by decide +kernel
theorem dX11_goneIfLent_33 : decode cX11_goneIfLent 33 = .ok (.invokevirtual 152, 3) := by decide +kernel
theorem dX11_goneIfLent_36 : decode cX11_goneIfLent 36 = .ok (.aload_n 0, 1) := by decide +kernel
theorem dX11_goneIfLent_37 : decode cX11_goneIfLent 37 = .ok (.getfield 16, 3) := by decide +kernel
theorem dX11_goneIfLent_40 : decode cX11_goneIfLent 40 = .ok (.invokevirtual 195, 3) := by decide +kernel
theorem dX11_goneIfLent_43 : decode cX11_goneIfLent 43 = .ok (.aload_n 0, 1) := by decide +kernel
theorem dX11_goneIfLent_44 : decode cX11_goneIfLent 44 = .ok (.getfield 16, 3) := by decide +kernel
theorem dX11_goneIfLent_47 : decode cX11_goneIfLent 47 = .ok (.iload_n 1, 1) := by decide +kernel
theorem dX11_goneIfLent_48 : decode cX11_goneIfLent 48 = .ok (.invokevirtual 107, 3) := by decide +kernel
theorem dX11_goneIfLent_51 : decode cX11_goneIfLent 51 = .ok (.ifCond .eq 7, 3) := by decide +kernel
theorem dX11_goneIfLent_54 : decode cX11_goneIfLent 54 = .ok (.iconst 0, 1) := by decide +kernel
theorem dX11_goneIfLent_55 : decode cX11_goneIfLent 55 = .ok (.goto 4, 3) := by decide +kernel
theorem dX11_goneIfLent_58 : decode cX11_goneIfLent 58 = .ok (.iconst 1, 1) := by decide +kernel
theorem dX11_goneIfLent_59 : decode cX11_goneIfLent 59 = .ok (.aload_n 0, 1) := by decide +kernel
theorem dX11_goneIfLent_60 : decode cX11_goneIfLent 60 = .ok (.getfield 16, 3) := by decide +kernel
theorem dX11_goneIfLent_63 : decode cX11_goneIfLent 63 = .ok (.iload_n 2, 1) := by decide +kernel
theorem dX11_goneIfLent_64 : decode cX11_goneIfLent 64 = .ok (.invokevirtual 107, 3) := by decide +kernel
theorem dX11_goneIfLent_67 : decode cX11_goneIfLent 67 = .ok (.ifCond .eq 7, 3) := by decide +kernel
theorem dX11_goneIfLent_70 : decode cX11_goneIfLent 70 = .ok (.iconst 0, 1) := by decide +kernel
theorem dX11_goneIfLent_71 : decode cX11_goneIfLent 71 = .ok (.goto 4, 3) := by decide +kernel
theorem dX11_goneIfLent_74 : decode cX11_goneIfLent 74 = .ok (.iconst 1, 1) := by decide +kernel
theorem dX11_goneIfLent_75 : decode cX11_goneIfLent 75 = .ok (.iadd, 1) := by decide +kernel
theorem dX11_goneIfLent_76 : decode cX11_goneIfLent 76 = .ok (.ireturn, 1) := by decide +kernel
theorem dX11_mostGoneOf_0 : decode cX11_mostGoneOf 0 = .ok (.iload_n 1, 1) := by decide +kernel
theorem dX11_mostGoneOf_1 : decode cX11_mostGoneOf 1 = .ok (.invokestatic 198, 3) := by decide +kernel
theorem dX11_mostGoneOf_4 : decode cX11_mostGoneOf 4 = .ok (.istore_n 2, 1) := by decide +kernel
theorem dX11_mostGoneOf_5 : decode cX11_mostGoneOf 5 = .ok (.iload_n 1, 1) := by decide +kernel
theorem dX11_mostGoneOf_6 : decode cX11_mostGoneOf 6 = .ok (.iconst 1, 1) := by decide +kernel
theorem dX11_mostGoneOf_7 : decode cX11_mostGoneOf 7 = .ok (.iload_n 2, 1) := by decide +kernel
theorem dX11_mostGoneOf_8 : decode cX11_mostGoneOf 8 = .ok (.ishl, 1) := by decide +kernel
theorem dX11_mostGoneOf_9 : decode cX11_mostGoneOf 9 = .ok (.iconst (-1), 1) := by decide +kernel
theorem dX11_mostGoneOf_10 : decode cX11_mostGoneOf 10 = .ok (.ixor, 1) := by decide +kernel
theorem dX11_mostGoneOf_11 : decode cX11_mostGoneOf 11 = .ok (.iand, 1) := by decide +kernel
theorem dX11_mostGoneOf_12 : decode cX11_mostGoneOf 12 = .ok (.istore_n 3, 1) := by decide +kernel
theorem dX11_mostGoneOf_13 : decode cX11_mostGoneOf 13 = .ok (.aload_n 0, 1) := by decide +kernel
theorem dX11_mostGoneOf_14 : decode cX11_mostGoneOf 14 = .ok (.getfield 38, 3) := by decide +kernel
theorem dX11_mostGoneOf_17 : decode cX11_mostGoneOf 17 = .ok (.iload_n 2, 1) := by decide +kernel
theorem dX11_mostGoneOf_18 : decode cX11_mostGoneOf 18 = .ok (.bipush 7, 2) := by decide +kernel
theorem dX11_mostGoneOf_20 : decode cX11_mostGoneOf 20 = .ok (.imul, 1) := by decide +kernel
theorem dX11_mostGoneOf_21 : decode cX11_mostGoneOf 21 = .ok (.iload_n 2, 1) := by decide +kernel
theorem dX11_mostGoneOf_22 : decode cX11_mostGoneOf 22 = .ok (.iadd, 1) := by decide +kernel
theorem dX11_mostGoneOf_23 : decode cX11_mostGoneOf 23 = .ok (.iaload, 1) := by decide +kernel
theorem dX11_mostGoneOf_24 : decode cX11_mostGoneOf 24 = .ok (.aload_n 0, 1) := by decide +kernel
theorem dX11_mostGoneOf_25 : decode cX11_mostGoneOf 25 = .ok (.getfield 42, 3) := by decide +kernel
theorem dX11_mostGoneOf_28 : decode cX11_mostGoneOf 28 = .ok (.iload_n 3, 1) := by decide +kernel
theorem dX11_mostGoneOf_29 : decode cX11_mostGoneOf 29 = .ok (.iaload, 1) := by decide +kernel
theorem dX11_mostGoneOf_30 : decode cX11_mostGoneOf 30 = .ok (.iadd, 1) := by decide +kernel
theorem dX11_mostGoneOf_31 : decode cX11_mostGoneOf 31 = .ok (.istore 4, 2) := by decide +kernel
theorem dX11_mostGoneOf_33 : decode cX11_mostGoneOf 33 = .ok (.iload_n 2, 1) := by decide +kernel
theorem dX11_mostGoneOf_34 : decode cX11_mostGoneOf 34 = .ok (.iconst 1, 1) := by decide +kernel
theorem dX11_mostGoneOf_35 : decode cX11_mostGoneOf 35 = .ok (.iadd, 1) := by decide +kernel
theorem dX11_mostGoneOf_36 : decode cX11_mostGoneOf 36 = .ok (.istore 5, 2) := by decide +kernel
theorem dX11_mostGoneOf_38 : decode cX11_mostGoneOf 38 = .ok (.iload 5, 2) := by decide +kernel
theorem dX11_mostGoneOf_40 : decode cX11_mostGoneOf 40 = .ok (.bipush 7, 2) := by decide +kernel
theorem dX11_mostGoneOf_42 : decode cX11_mostGoneOf 42 = .ok (.if_icmp .ge 35, 3) := by decide +kernel
theorem dX11_mostGoneOf_45 : decode cX11_mostGoneOf 45 = .ok (.aload_n 0, 1) := by decide +kernel
theorem dX11_mostGoneOf_46 : decode cX11_mostGoneOf 46 = .ok (.iload_n 2, 1) := by decide +kernel
theorem dX11_mostGoneOf_47 : decode cX11_mostGoneOf 47 = .ok (.iload 5, 2) := by decide +kernel
theorem dX11_mostGoneOf_49 : decode cX11_mostGoneOf 49 = .ok (.iload_n 3, 1) := by decide +kernel
theorem dX11_mostGoneOf_50 : decode cX11_mostGoneOf 50 = .ok (.invokevirtual 237, 3) := by decide +kernel
theorem dX11_mostGoneOf_53 : decode cX11_mostGoneOf 53 = .ok (.ifCond .eq 18, 3) := by decide +kernel
theorem dX11_mostGoneOf_56 : decode cX11_mostGoneOf 56 = .ok (.iload 4, 2) := by decide +kernel
theorem dX11_mostGoneOf_58 : decode cX11_mostGoneOf 58 = .ok (.aload_n 0, 1) := by decide +kernel
theorem dX11_mostGoneOf_59 : decode cX11_mostGoneOf 59 = .ok (.iload_n 2, 1) := by decide +kernel
theorem dX11_mostGoneOf_60 : decode cX11_mostGoneOf 60 = .ok (.iload 5, 2) := by decide +kernel
theorem dX11_mostGoneOf_62 : decode cX11_mostGoneOf 62 = .ok (.iload_n 3, 1) := by decide +kernel
theorem dX11_mostGoneOf_63 : decode cX11_mostGoneOf 63 = .ok (.invokevirtual 240, 3) := by decide +kernel
theorem dX11_mostGoneOf_66 : decode cX11_mostGoneOf 66 = .ok (.invokestatic 229, 3) := by decide +kernel
theorem dX11_mostGoneOf_69 : decode cX11_mostGoneOf 69 = .ok (.istore 4, 2) := by decide +kernel
theorem dX11_mostGoneOf_71 : decode cX11_mostGoneOf 71 = .ok (.iinc 5 1, 3) := by decide +kernel
theorem dX11_mostGoneOf_74 : decode cX11_mostGoneOf 74 = .ok (.goto (-36), 3) := by decide +kernel
theorem dX11_mostGoneOf_77 : decode cX11_mostGoneOf 77 = .ok (.iload 4, 2) := by decide +kernel
theorem dX11_mostGoneOf_79 : decode cX11_mostGoneOf 79 = .ok (.ireturn, 1) := by decide +kernel
theorem dX11_canPair_0 : decode cX11_canPair 0 = .ok (.iload_n 3, 1) := by decide +kernel
theorem dX11_canPair_1 : decode cX11_canPair 1 = .ok (.iload_n 2, 1) := by decide +kernel
theorem dX11_canPair_2 : decode cX11_canPair 2 = .ok (.ishr, 1) := by decide +kernel
theorem dX11_canPair_3 : decode cX11_canPair 3 = .ok (.iconst 1, 1) := by decide +kernel
theorem dX11_canPair_4 : decode cX11_canPair 4 = .ok (.iand, 1) := by decide +kernel
theorem dX11_canPair_5 : decode cX11_canPair 5 = .ok (.iconst 1, 1) := by decide +kernel
theorem dX11_canPair_6 : decode cX11_canPair 6 = .ok (.if_icmp .ne 21, 3) := by decide +kernel
theorem dX11_canPair_9 : decode cX11_canPair 9 = .ok (.aload_n 0, 1) := by decide +kernel
theorem dX11_canPair_10 : decode cX11_canPair 10 = .ok (.getfield 38, 3) := by decide +kernel
theorem dX11_canPair_13 : decode cX11_canPair 13 = .ok (.iload_n 1, 1) := by decide +kernel
theorem dX11_canPair_14 : decode cX11_canPair 14 = .ok (.bipush 7, 2) := by decide +kernel
theorem dX11_canPair_16 : decode cX11_canPair 16 = .ok (.imul, 1) := by decide +kernel
theorem dX11_canPair_17 : decode cX11_canPair 17 = .ok (.iload_n 2, 1) := by decide +kernel
theorem dX11_canPair_18 : decode cX11_canPair 18 = .ok (.iadd, 1) := by decide +kernel
theorem dX11_canPair_19 : decode cX11_canPair 19 = .ok (.iaload, 1) := by decide +kernel
theorem dX11_canPair_20 : decode cX11_canPair 20 = .ok (.ifCond .lt 7, 3) := by decide +kernel
theorem dX11_canPair_23 : decode cX11_canPair 23 = .ok (.iconst 1, 1) := by decide +kernel
theorem dX11_canPair_24 : decode cX11_canPair 24 = .ok (.goto 4, 3) := by decide +kernel
theorem dX11_canPair_27 : decode cX11_canPair 27 = .ok (.iconst 0, 1) := by decide +kernel
theorem dX11_canPair_28 : decode cX11_canPair 28 = .ok (.ireturn, 1) := by decide +kernel
theorem dX11_goneWithPair_0 : decode cX11_goneWithPair 0 = .ok (.aload_n 0, 1) := by decide +kernel
theorem dX11_goneWithPair_1 : decode cX11_goneWithPair 1 = .ok (.getfield 38, 3) := by decide +kernel
theorem dX11_goneWithPair_4 : decode cX11_goneWithPair 4 = .ok (.iload_n 1, 1) := by decide +kernel
theorem dX11_goneWithPair_5 : decode cX11_goneWithPair 5 = .ok (.bipush 7, 2) := by decide +kernel
theorem dX11_goneWithPair_7 : decode cX11_goneWithPair 7 = .ok (.imul, 1) := by decide +kernel
theorem dX11_goneWithPair_8 : decode cX11_goneWithPair 8 = .ok (.iload_n 2, 1) := by decide +kernel
theorem dX11_goneWithPair_9 : decode cX11_goneWithPair 9 = .ok (.iadd, 1) := by decide +kernel
theorem dX11_goneWithPair_10 : decode cX11_goneWithPair 10 = .ok (.iaload, 1) := by decide +kernel
theorem dX11_goneWithPair_11 : decode cX11_goneWithPair 11 = .ok (.aload_n 0, 1) := by decide +kernel
theorem dX11_goneWithPair_12 : decode cX11_goneWithPair 12 = .ok (.getfield 42, 3) := by decide +kernel
theorem dX11_goneWithPair_15 : decode cX11_goneWithPair 15 = .ok (.iload_n 3, 1) := by decide +kernel
theorem dX11_goneWithPair_16 : decode cX11_goneWithPair 16 = .ok (.iconst 1, 1) := by decide +kernel
theorem dX11_goneWithPair_17 : decode cX11_goneWithPair 17 = .ok (.iload_n 2, 1) := by decide +kernel
theorem dX11_goneWithPair_18 : decode cX11_goneWithPair 18 = .ok (.ishl, 1) := by decide +kernel
theorem dX11_goneWithPair_19 : decode cX11_goneWithPair 19 = .ok (.iconst (-1), 1) := by decide +kernel
theorem dX11_goneWithPair_20 : decode cX11_goneWithPair 20 = .ok (.ixor, 1) := by decide +kernel
theorem dX11_goneWithPair_21 : decode cX11_goneWithPair 21 = .ok (.iand, 1) := by decide +kernel
theorem dX11_goneWithPair_22 : decode cX11_goneWithPair 22 = .ok (.iaload, 1) := by decide +kernel
theorem dX11_goneWithPair_23 : decode cX11_goneWithPair 23 = .ok (.iadd, 1) := by decide +kernel
theorem dX11_goneWithPair_24 : decode cX11_goneWithPair 24 = .ok (.ireturn, 1) := by decide +kernel
theorem dX11_partnerOf_0 : decode cX11_partnerOf 0 = .ok (.aload_n 0, 1) := by decide +kernel
theorem dX11_partnerOf_1 : decode cX11_partnerOf 1 = .ok (.getfield 10, 3) := by decide +kernel
theorem dX11_partnerOf_4 : decode cX11_partnerOf 4 = .ok (.getfield 177, 3) := by decide +kernel
theorem dX11_partnerOf_7 : decode cX11_partnerOf 7 = .ok (.istore_n 2, 1) := by decide +kernel
theorem dX11_partnerOf_8 : decode cX11_partnerOf 8 = .ok (.iconst 0, 1) := by decide +kernel
theorem dX11_partnerOf_9 : decode cX11_partnerOf 9 = .ok (.istore_n 3, 1) := by decide +kernel
theorem dX11_partnerOf_10 : decode cX11_partnerOf 10 = .ok (.iload_n 3, 1) := by decide +kernel
theorem dX11_partnerOf_11 : decode cX11_partnerOf 11 = .ok (.bipush 7, 2) := by decide +kernel
theorem dX11_partnerOf_13 : decode cX11_partnerOf 13 = .ok (.if_icmp .ge 67, 3) := by decide +kernel
theorem dX11_partnerOf_16 : decode cX11_partnerOf 16 = .ok (.iload_n 2, 1) := by decide +kernel
theorem dX11_partnerOf_17 : decode cX11_partnerOf 17 = .ok (.ifCond .eq 63, 3) := by decide +kernel
theorem dX11_partnerOf_20 : decode cX11_partnerOf 20 = .ok (.iload_n 2, 1) := by decide +kernel
theorem dX11_partnerOf_21 : decode cX11_partnerOf 21 = .ok (.invokestatic 198, 3) := by decide +kernel
theorem dX11_partnerOf_24 : decode cX11_partnerOf 24 = .ok (.istore 4, 2) := by decide +kernel
theorem dX11_partnerOf_26 : decode cX11_partnerOf 26 = .ok (.aload_n 0, 1) := by decide +kernel
theorem dX11_partnerOf_27 : decode cX11_partnerOf 27 = .ok (.iload_n 2, 1) := by decide +kernel
theorem dX11_partnerOf_28 : decode cX11_partnerOf 28 = .ok (.invokevirtual 244, 3) := by decide +kernel
theorem dX11_partnerOf_31 : decode cX11_partnerOf 31 = .ok (.istore 5, 2) := by decide +kernel
theorem dX11_partnerOf_33 : decode cX11_partnerOf 33 = .ok (.iload 4, 2) := by decide +kernel
theorem dX11_partnerOf_35 : decode cX11_partnerOf 35 = .ok (.iload_n 1, 1) := by decide +kernel
theorem dX11_partnerOf_36 : decode cX11_partnerOf 36 = .ok (.if_icmp .ne 6, 3) := by decide +kernel
theorem dX11_partnerOf_39 : decode cX11_partnerOf 39 = .ok (.iload 5, 2) := by decide +kernel
theorem dX11_partnerOf_41 : decode cX11_partnerOf 41 = .ok (.ireturn, 1) := by decide +kernel
theorem dX11_partnerOf_42 : decode cX11_partnerOf 42 = .ok (.iload 5, 2) := by decide +kernel
theorem dX11_partnerOf_44 : decode cX11_partnerOf 44 = .ok (.iload_n 1, 1) := by decide +kernel
theorem dX11_partnerOf_45 : decode cX11_partnerOf 45 = .ok (.if_icmp .ne 6, 3) := by decide +kernel
theorem dX11_partnerOf_48 : decode cX11_partnerOf 48 = .ok (.iload 4, 2) := by decide +kernel
theorem dX11_partnerOf_50 : decode cX11_partnerOf 50 = .ok (.ireturn, 1) := by decide +kernel
theorem dX11_partnerOf_51 : decode cX11_partnerOf 51 = .ok (.iload_n 2, 1) := by decide +kernel
theorem dX11_partnerOf_52 : decode cX11_partnerOf 52 = .ok (.iconst 1, 1) := by decide +kernel
theorem dX11_partnerOf_53 : decode cX11_partnerOf 53 = .ok (.iload 4, 2) := by decide +kernel
theorem dX11_partnerOf_55 : decode cX11_partnerOf 55 = .ok (.ishl, 1) := by decide +kernel
theorem dX11_partnerOf_56 : decode cX11_partnerOf 56 = .ok (.iconst (-1), 1) := by decide +kernel
theorem dX11_partnerOf_57 : decode cX11_partnerOf 57 = .ok (.ixor, 1) := by decide +kernel
theorem dX11_partnerOf_58 : decode cX11_partnerOf 58 = .ok (.iand, 1) := by decide +kernel
theorem dX11_partnerOf_59 : decode cX11_partnerOf 59 = .ok (.istore_n 2, 1) := by decide +kernel
theorem dX11_partnerOf_60 : decode cX11_partnerOf 60 = .ok (.iload 5, 2) := by decide +kernel
theorem dX11_partnerOf_62 : decode cX11_partnerOf 62 = .ok (.ifCond .lt 12, 3) := by decide +kernel
theorem dX11_partnerOf_65 : decode cX11_partnerOf 65 = .ok (.iload_n 2, 1) := by decide +kernel
theorem dX11_partnerOf_66 : decode cX11_partnerOf 66 = .ok (.iconst 1, 1) := by decide +kernel
theorem dX11_partnerOf_67 : decode cX11_partnerOf 67 = .ok (.iload 5, 2) := by decide +kernel
theorem dX11_partnerOf_69 : decode cX11_partnerOf 69 = .ok (.ishl, 1) := by decide +kernel
theorem dX11_partnerOf_70 : decode cX11_partnerOf 70 = .ok (.iconst (-1), 1) := by decide +kernel
theorem dX11_partnerOf_71 : decode cX11_partnerOf 71 = .ok (.ixor, 1) := by decide +kernel
theorem dX11_partnerOf_72 : decode cX11_partnerOf 72 = .ok (.iand, 1) := by decide +kernel
theorem dX11_partnerOf_73 : decode cX11_partnerOf 73 = .ok (.istore_n 2, 1) := by decide +kernel
theorem dX11_partnerOf_74 : decode cX11_partnerOf 74 = .ok (.iinc 3 1, 3) := by decide +kernel
theorem dX11_partnerOf_77 : decode cX11_partnerOf 77 = .ok (.goto (-67), 3) := by decide +kernel
theorem dX11_partnerOf_80 : decode cX11_partnerOf 80 = .ok (.bipush (-4), 2) := by decide +kernel
theorem dX11_partnerOf_82 : decode cX11_partnerOf 82 = .ok (.ireturn, 1) := by decide +kernel
theorem dX11_partnerOfLowest_0 : decode cX11_partnerOfLowest 0 = .ok (.iload_n 1, 1) := by decide +kernel
theorem dX11_partnerOfLowest_1 : decode cX11_partnerOfLowest 1 = .ok (.invokestatic 198, 3) := by decide +kernel
theorem dX11_partnerOfLowest_4 : decode cX11_partnerOfLowest 4 = .ok (.istore_n 2, 1) := by decide +kernel
theorem dX11_partnerOfLowest_5 : decode cX11_partnerOfLowest 5 = .ok (.iload_n 1, 1) := by decide +kernel
theorem dX11_partnerOfLowest_6 : decode cX11_partnerOfLowest 6 = .ok (.iconst 1, 1) := by decide +kernel
theorem dX11_partnerOfLowest_7 : decode cX11_partnerOfLowest 7 = .ok (.iload_n 2, 1) := by decide +kernel
theorem dX11_partnerOfLowest_8 : decode cX11_partnerOfLowest 8 = .ok (.ishl, 1) := by decide +kernel
theorem dX11_partnerOfLowest_9 : decode cX11_partnerOfLowest 9 = .ok (.iconst (-1), 1) := by decide +kernel
theorem dX11_partnerOfLowest_10 : decode cX11_partnerOfLowest 10 = .ok (.ixor, 1) := by decide +kernel
theorem dX11_partnerOfLowest_11 : decode cX11_partnerOfLowest 11 = .ok (.iand, 1) := by decide +kernel
theorem dX11_partnerOfLowest_12 : decode cX11_partnerOfLowest 12 = .ok (.istore_n 3, 1) := by decide +kernel
theorem dX11_partnerOfLowest_13 : decode cX11_partnerOfLowest 13 = .ok (.iload_n 2, 1) := by decide +kernel
theorem dX11_partnerOfLowest_14 : decode cX11_partnerOfLowest 14 = .ok (.iconst 1, 1) := by decide +kernel
theorem dX11_partnerOfLowest_15 : decode cX11_partnerOfLowest 15 = .ok (.iadd, 1) := by decide +kernel
theorem dX11_partnerOfLowest_16 : decode cX11_partnerOfLowest 16 = .ok (.istore 4, 2) := by decide +kernel
theorem dX11_partnerOfLowest_18 : decode cX11_partnerOfLowest 18 = .ok (.iload 4, 2) := by decide +kernel
theorem dX11_partnerOfLowest_20 : decode cX11_partnerOfLowest 20 = .ok (.bipush 7, 2) := by decide +kernel
theorem dX11_partnerOfLowest_22 : decode cX11_partnerOfLowest 22 = .ok (.if_icmp .ge 40, 3) := by decide +kernel
theorem dX11_partnerOfLowest_25 : decode cX11_partnerOfLowest 25 = .ok (.aload_n 0, 1) := by decide +kernel
theorem dX11_partnerOfLowest_26 : decode cX11_partnerOfLowest 26 = .ok (.iload_n 2, 1) := by decide +kernel
theorem dX11_partnerOfLowest_27 : decode cX11_partnerOfLowest 27 = .ok (.iload 4, 2) := by decide +kernel
theorem dX11_partnerOfLowest_29 : decode cX11_partnerOfLowest 29 = .ok (.iload_n 3, 1) := by decide +kernel
theorem dX11_partnerOfLowest_30 : decode cX11_partnerOfLowest 30 = .ok (.invokevirtual 237, 3) := by decide +kernel
theorem dX11_partnerOfLowest_33 : decode cX11_partnerOfLowest 33 = .ok (.ifCond .eq 23, 3) := by decide +kernel
theorem dX11_partnerOfLowest_36 : decode cX11_partnerOfLowest 36 = .ok (.aload_n 0, 1) := by decide +kernel
theorem dX11_partnerOfLowest_37 : decode cX11_partnerOfLowest 37 = .ok (.iload_n 2, 1) := by decide +kernel
theorem dX11_partnerOfLowest_38 : decode cX11_partnerOfLowest 38 = .ok (.iload 4, 2) := by decide +kernel
theorem dX11_partnerOfLowest_40 : decode cX11_partnerOfLowest 40 = .ok (.iload_n 3, 1) := by decide +kernel
theorem dX11_partnerOfLowest_41 : decode cX11_partnerOfLowest 41 = .ok (.invokevirtual 240, 3) := by decide +kernel
theorem dX11_partnerOfLowest_44 : decode cX11_partnerOfLowest 44 = .ok (.aload_n 0, 1) := by decide +kernel
theorem dX11_partnerOfLowest_45 : decode cX11_partnerOfLowest 45 = .ok (.getfield 42, 3) := by decide +kernel
theorem dX11_partnerOfLowest_48 : decode cX11_partnerOfLowest 48 = .ok (.iload_n 1, 1) := by decide +kernel
theorem dX11_partnerOfLowest_49 : decode cX11_partnerOfLowest 49 = .ok (.iaload, 1) := by decide +kernel
theorem dX11_partnerOfLowest_50 : decode cX11_partnerOfLowest 50 = .ok (.if_icmp .ne 6, 3) := by decide +kernel
theorem dX11_partnerOfLowest_53 : decode cX11_partnerOfLowest 53 = .ok (.iload 4, 2) := by decide +kernel
theorem dX11_partnerOfLowest_55 : decode cX11_partnerOfLowest 55 = .ok (.ireturn, 1) := by decide +kernel
theorem dX11_partnerOfLowest_56 : decode cX11_partnerOfLowest 56 = .ok (.iinc 4 1, 3) := by decide +kernel
theorem dX11_partnerOfLowest_59 : decode cX11_partnerOfLowest 59 = .ok (.goto (-41), 3) := by decide +kernel
theorem dX11_partnerOfLowest_62 : decode cX11_partnerOfLowest 62 = .ok (.bipush (-4), 2) := by decide +kernel
theorem dX11_partnerOfLowest_64 : decode cX11_partnerOfLowest 64 = .ok (.ireturn, 1) := by decide +kernel
theorem dX11_whatIs_0 : decode cX11_whatIs 0 = .ok (.iload_n 1, 1) := by decide +kernel
theorem dX11_whatIs_1 : decode cX11_whatIs 1 = .ok (.invokestatic 45, 3) := by decide +kernel
theorem dX11_whatIs_4 : decode cX11_whatIs 4 = .ok (.ifCond .eq 23, 3) := by decide +kernel
theorem dX11_whatIs_7 : decode cX11_whatIs 7 = .ok (.aload_n 0, 1) := by decide +kernel
theorem dX11_whatIs_8 : decode cX11_whatIs 8 = .ok (.getfield 10, 3) := by decide +kernel
theorem dX11_whatIs_11 : decode cX11_whatIs 11 = .ok (.iload_n 2, 1) := by decide +kernel
theorem dX11_whatIs_12 : decode cX11_whatIs 12 = .ok (.invokevirtual 84, 3) := by decide +kernel
theorem dX11_whatIs_15 : decode cX11_whatIs 15 = .ok (.ifCond .eq 12, 3) := by decide +kernel
theorem dX11_whatIs_18 : decode cX11_whatIs 18 = .ok (.iload_n 3, 1) := by decide +kernel
theorem dX11_whatIs_19 : decode cX11_whatIs 19 = .ok (.ifCond .lt 8, 3) := by decide +kernel
theorem dX11_whatIs_22 : decode cX11_whatIs 22 = .ok (.iload_n 3, 1) := by decide +kernel
theorem dX11_whatIs_23 : decode cX11_whatIs 23 = .ok (.iconst 1, 1) := by decide +kernel
theorem dX11_whatIs_24 : decode cX11_whatIs 24 = .ok (.if_icmp .le 5, 3) := by decide +kernel
theorem dX11_whatIs_27 : decode cX11_whatIs 27 = .ok (.iconst (-1), 1) := by decide +kernel
theorem dX11_whatIs_28 : decode cX11_whatIs 28 = .ok (.ireturn, 1) := by decide +kernel
theorem dX11_whatIs_29 : decode cX11_whatIs 29 = .ok (.aload_n 0, 1) := by decide +kernel
theorem dX11_whatIs_30 : decode cX11_whatIs 30 = .ok (.iload_n 1, 1) := by decide +kernel
theorem dX11_whatIs_31 : decode cX11_whatIs 31 = .ok (.invokevirtual 49, 3) := by decide +kernel
theorem dX11_whatIs_34 : decode cX11_whatIs 34 = .ok (.astore 4, 2) := by decide +kernel
theorem dX11_whatIs_36 : decode cX11_whatIs 36 = .ok (.aload 4, 2) := by decide +kernel
theorem dX11_whatIs_38 : decode cX11_whatIs 38 = .ok (.ifnonnull 9, 3) := by decide +kernel
theorem dX11_whatIs_41 : decode cX11_whatIs 41 = .ok (.aload_n 0, 1) := by decide +kernel
theorem dX11_whatIs_42 : decode cX11_whatIs 42 = .ok (.iload_n 1, 1) := by decide +kernel
theorem dX11_whatIs_43 : decode cX11_whatIs 43 = .ok (.invokevirtual 53, 3) := by decide +kernel
theorem dX11_whatIs_46 : decode cX11_whatIs 46 = .ok (.ireturn, 1) := by decide +kernel
theorem dX11_whatIs_47 : decode cX11_whatIs 47 = .ok (.iload_n 3, 1) := by decide +kernel
theorem dX11_whatIs_48 : decode cX11_whatIs 48 = .ok (.ifCond .ne 13, 3) := by decide +kernel
theorem dX11_whatIs_51 : decode cX11_whatIs 51 = .ok (.aload_n 0, 1) := by decide +kernel
theorem dX11_whatIs_52 : decode cX11_whatIs 52 = .ok (.aload 4, 2) := by decide +kernel
theorem dX11_whatIs_54 : decode cX11_whatIs 54 = .ok (.iload_n 2, 1) := by decide +kernel
theorem dX11_whatIs_55 : decode cX11_whatIs 55 = .ok (.invokevirtual 247, 3) := by decide +kernel
theorem dX11_whatIs_58 : decode cX11_whatIs 58 = .ok (.goto 10, 3) := by decide +kernel
theorem dX11_whatIs_61 : decode cX11_whatIs 61 = .ok (.aload_n 0, 1) := by decide +kernel
theorem dX11_whatIs_62 : decode cX11_whatIs 62 = .ok (.aload 4, 2) := by decide +kernel
theorem dX11_whatIs_64 : decode cX11_whatIs 64 = .ok (.iload_n 2, 1) := by decide +kernel
theorem dX11_whatIs_65 : decode cX11_whatIs 65 = .ok (.invokevirtual 251, 3) := by decide +kernel
theorem dX11_whatIs_68 : decode cX11_whatIs 68 = .ok (.ireturn, 1) := by decide +kernel
theorem dX11_cameWith_0 : decode cX11_cameWith 0 = .ok (.iload_n 1, 1) := by decide +kernel
theorem dX11_cameWith_1 : decode cX11_cameWith 1 = .ok (.invokestatic 45, 3) := by decide +kernel
theorem dX11_cameWith_4 : decode cX11_cameWith 4 = .ok (.ifCond .eq 23, 3) := by decide +kernel
theorem dX11_cameWith_7 : decode cX11_cameWith 7 = .ok (.aload_n 0, 1) := by decide +kernel
theorem dX11_cameWith_8 : decode cX11_cameWith 8 = .ok (.getfield 10, 3) := by decide +kernel
theorem dX11_cameWith_11 : decode cX11_cameWith 11 = .ok (.iload_n 2, 1) := by decide +kernel
theorem dX11_cameWith_12 : decode cX11_cameWith 12 = .ok (.invokevirtual 84, 3) := by decide +kernel
theorem dX11_cameWith_15 : decode cX11_cameWith 15 = .ok (.ifCond .eq 12, 3) := by decide +kernel
theorem dX11_cameWith_18 : decode cX11_cameWith 18 = .ok (.iload_n 3, 1) := by decide +kernel
theorem dX11_cameWith_19 : decode cX11_cameWith 19 = .ok (.ifCond .lt 8, 3) := by decide +kernel
theorem dX11_cameWith_22 : decode cX11_cameWith 22 = .ok (.iload_n 3, 1) := by decide +kernel
theorem dX11_cameWith_23 : decode cX11_cameWith 23 = .ok (.iconst 2, 1) := by decide +kernel
theorem dX11_cameWith_24 : decode cX11_cameWith 24 = .ok (.if_icmp .le 5, 3) := by decide +kernel
theorem dX11_cameWith_27 : decode cX11_cameWith 27 = .ok (.iconst (-1), 1) := by decide +kernel
theorem dX11_cameWith_28 : decode cX11_cameWith 28 = .ok (.ireturn, 1) := by decide +kernel
theorem dX11_cameWith_29 : decode cX11_cameWith 29 = .ok (.aload_n 0, 1) := by decide +kernel
theorem dX11_cameWith_30 : decode cX11_cameWith 30 = .ok (.iload_n 1, 1) := by decide +kernel
theorem dX11_cameWith_31 : decode cX11_cameWith 31 = .ok (.invokevirtual 49, 3) := by decide +kernel
theorem dX11_cameWith_34 : decode cX11_cameWith 34 = .ok (.astore 4, 2) := by decide +kernel
theorem dX11_cameWith_36 : decode cX11_cameWith 36 = .ok (.aload 4, 2) := by decide +kernel
theorem dX11_cameWith_38 : decode cX11_cameWith 38 = .ok (.ifnonnull 9, 3) := by decide +kernel
theorem dX11_cameWith_41 : decode cX11_cameWith 41 = .ok (.aload_n 0, 1) := by decide +kernel
theorem dX11_cameWith_42 : decode cX11_cameWith 42 = .ok (.iload_n 1, 1) := by decide +kernel
theorem dX11_cameWith_43 : decode cX11_cameWith 43 = .ok (.invokevirtual 53, 3) := by decide +kernel
theorem dX11_cameWith_46 : decode cX11_cameWith 46 = .ok (.ireturn, 1) := by decide +kernel
theorem dX11_cameWith_47 : decode cX11_cameWith 47 = .ok (.aload_n 0, 1) := by decide +kernel
theorem dX11_cameWith_48 : decode cX11_cameWith 48 = .ok (.aload 4, 2) := by decide +kernel
theorem dX11_cameWith_50 : decode cX11_cameWith 50 = .ok (.iload_n 2, 1) := by decide +kernel
theorem dX11_cameWith_51 : decode cX11_cameWith 51 = .ok (.iload_n 3, 1) := by decide +kernel
theorem dX11_cameWith_52 : decode cX11_cameWith 52 = .ok (.invokevirtual 254, 3) := by decide +kernel
theorem dX11_cameWith_55 : decode cX11_cameWith 55 = .ok (.ireturn, 1) := by decide +kernel
theorem dX11_two_0 : decode cX11_two 0 = .ok (.aload_n 0, 1) := by decide +kernel
theorem dX11_two_1 : decode cX11_two 1 = .ok (.iload_n 1, 1) := by decide +kernel
theorem dX11_two_2 : decode cX11_two 2 = .ok (.iload_n 2, 1) := by decide +kernel
theorem dX11_two_3 : decode cX11_two 3 = .ok (.invokevirtual 144, 3) := by decide +kernel
theorem dX11_two_6 : decode cX11_two 6 = .ok (.ifCond .eq 14, 3) := by decide +kernel
theorem dX11_two_9 : decode cX11_two 9 = .ok (.iload_n 3, 1) := by decide +kernel
theorem dX11_two_10 : decode cX11_two 10 = .ok (.iconst 1, 1) := by decide +kernel
theorem dX11_two_11 : decode cX11_two 11 = .ok (.if_icmp .lt 9, 3) := by decide +kernel
theorem dX11_two_14 : decode cX11_two 14 = .ok (.iload_n 3, 1) := by decide +kernel
theorem dX11_two_15 : decode cX11_two 15 = .ok (.bipush 30, 2) := by decide +kernel
theorem dX11_two_17 : decode cX11_two 17 = .ok (.if_icmp .le 5, 3) := by decide +kernel
theorem dX11_two_20 : decode cX11_two 20 = .ok (.iconst (-1), 1) := by decide +kernel
theorem dX11_two_21 : decode cX11_two 21 = .ok (.ireturn, 1) := by decide +kernel
theorem dX11_two_22 : decode cX11_two 22 = .ok (.aload_n 0, 1) := by decide +kernel
theorem dX11_two_23 : decode cX11_two 23 = .ok (.getfield 10, 3) := by decide +kernel
theorem dX11_two_26 : decode cX11_two 26 = .ok (.iload_n 1, 1) := by decide +kernel
theorem dX11_two_27 : decode cX11_two 27 = .ok (.invokevirtual 107, 3) := by decide +kernel
theorem dX11_two_30 : decode cX11_two 30 = .ok (.ifCond .eq 14, 3) := by decide +kernel
theorem dX11_two_33 : decode cX11_two 33 = .ok (.aload_n 0, 1) := by decide +kernel
theorem dX11_two_34 : decode cX11_two 34 = .ok (.getfield 10, 3) := by decide +kernel
theorem dX11_two_37 : decode cX11_two 37 = .ok (.iload_n 2, 1) := by decide +kernel
theorem dX11_two_38 : decode cX11_two 38 = .ok (.invokevirtual 107, 3) := by decide +kernel
theorem dX11_two_41 : decode cX11_two 41 = .ok (.ifCond .ne 6, 3) := by decide +kernel
theorem dX11_two_44 : decode cX11_two 44 = .ok (.bipush (-3), 2) := by decide +kernel
theorem dX11_two_46 : decode cX11_two 46 = .ok (.ireturn, 1) := by decide +kernel
theorem dX11_two_47 : decode cX11_two 47 = .ok (.aload_n 0, 1) := by decide +kernel
theorem dX11_two_48 : decode cX11_two 48 = .ok (.iload_n 1, 1) := by decide +kernel
theorem dX11_two_49 : decode cX11_two 49 = .ok (.iconst 0, 1) := by decide +kernel
theorem dX11_two_50 : decode cX11_two 50 = .ok (.iload_n 3, 1) := by decide +kernel
theorem dX11_two_51 : decode cX11_two 51 = .ok (.invokevirtual 258, 3) := by decide +kernel
theorem dX11_two_54 : decode cX11_two 54 = .ok (.istore 4, 2) := by decide +kernel
theorem dX11_two_56 : decode cX11_two 56 = .ok (.aload_n 0, 1) := by decide +kernel
theorem dX11_two_57 : decode cX11_two 57 = .ok (.iload_n 1, 1) := by decide +kernel
theorem dX11_two_58 : decode cX11_two 58 = .ok (.iconst 1, 1) := by decide +kernel
theorem dX11_two_59 : decode cX11_two 59 = .ok (.iload_n 3, 1) := by decide +kernel
theorem dX11_two_60 : decode cX11_two 60 = .ok (.invokevirtual 258, 3) := by decide +kernel
theorem dX11_two_63 : decode cX11_two 63 = .ok (.istore 5, 2) := by decide +kernel
theorem dX11_two_65 : decode cX11_two 65 = .ok (.aload_n 0, 1) := by decide +kernel
theorem dX11_two_66 : decode cX11_two 66 = .ok (.iload_n 2, 1) := by decide +kernel
theorem dX11_two_67 : decode cX11_two 67 = .ok (.iconst 0, 1) := by decide +kernel
theorem dX11_two_68 : decode cX11_two 68 = .ok (.iload_n 3, 1) := by decide +kernel
theorem dX11_two_69 : decode cX11_two 69 = .ok (.invokevirtual 258, 3) := by decide +kernel
theorem dX11_two_72 : decode cX11_two 72 = .ok (.istore 6, 2) := by decide +kernel
theorem dX11_two_74 : decode cX11_two 74 = .ok (.aload_n 0, 1) := by decide +kernel
theorem dX11_two_75 : decode cX11_two 75 = .ok (.iload_n 2, 1) := by decide +kernel
theorem dX11_two_76 : decode cX11_two 76 = .ok (.iconst 1, 1) := by decide +kernel
theorem dX11_two_77 : decode cX11_two 77 = .ok (.iload_n 3, 1) := by decide +kernel
theorem dX11_two_78 : decode cX11_two 78 = .ok (.invokevirtual 258, 3) := by decide +kernel
theorem dX11_two_81 : decode cX11_two 81 = .ok (.istore 7, 2) := by decide +kernel
theorem dX11_two_83 : decode cX11_two 83 = .ok (.iload 4, 2) := by decide +kernel
theorem dX11_two_85 : decode cX11_two 85 = .ok (.iload 5, 2) := by decide +kernel
theorem dX11_two_87 : decode cX11_two 87 = .ok (.if_icmp .lt 7, 3) := by decide +kernel
theorem dX11_two_90 : decode cX11_two 90 = .ok (.iconst 0, 1) := by decide +kernel
theorem dX11_two_91 : decode cX11_two 91 = .ok (.goto 4, 3) := by decide +kernel
theorem dX11_two_94 : decode cX11_two 94 = .ok (.iconst 1, 1) := by decide +kernel
theorem dX11_two_95 : decode cX11_two 95 = .ok (.istore 8, 2) := by decide +kernel
theorem dX11_two_97 : decode cX11_two 97 = .ok (.iload 6, 2) := by decide +kernel
theorem dX11_two_99 : decode cX11_two 99 = .ok (.iload 7, 2) := by decide +kernel
theorem dX11_two_101 : decode cX11_two 101 = .ok (.if_icmp .lt 7, 3) := by decide +kernel
theorem dX11_two_104 : decode cX11_two 104 = .ok (.iconst 0, 1) := by decide +kernel
theorem dX11_two_105 : decode cX11_two 105 = .ok (.goto 4, 3) := by decide +kernel
theorem dX11_two_108 : decode cX11_two 108 = .ok (.iconst 1, 1) := by decide +kernel
theorem dX11_two_109 : decode cX11_two 109 = .ok (.istore 9, 2) := by decide +kernel
theorem dX11_two_111 : decode cX11_two 111 = .ok (.bipush 10, 2) := by decide +kernel
theorem dX11_two_113 : decode cX11_two 113 = .ok (.iload 8, 2) := by decide +kernel
theorem dX11_two_115 : decode cX11_two 115 = .ok (.imul, 1) := by decide +kernel
theorem dX11_two_116 : decode cX11_two 116 = .ok (.iload 9, 2) := by decide +kernel
theorem dX11_two_118 : decode cX11_two 118 = .ok (.iadd, 1) := by decide +kernel
theorem dX11_two_119 : decode cX11_two 119 = .ok (.ireturn, 1) := by decide +kernel
theorem dX11_feasts_0 : decode cX11_feasts 0 = .ok (.aload_n 0, 1) := by decide +kernel
theorem dX11_feasts_1 : decode cX11_feasts 1 = .ok (.getfield 10, 3) := by decide +kernel
theorem dX11_feasts_4 : decode cX11_feasts 4 = .ok (.iload_n 1, 1) := by decide +kernel
theorem dX11_feasts_5 : decode cX11_feasts 5 = .ok (.invokevirtual 84, 3) := by decide +kernel
theorem dX11_feasts_8 : decode cX11_feasts 8 = .ok (.ifCond .eq 32, 3) := by decide +kernel
theorem dX11_feasts_11 : decode cX11_feasts 11 = .ok (.iload_n 2, 1) := by decide +kernel
theorem dX11_feasts_12 : decode cX11_feasts 12 = .ok (.ifCond .lt 28, 3) := by decide +kernel
theorem dX11_feasts_15 : decode cX11_feasts 15 = .ok (.iload_n 2, 1) := by decide +kernel
theorem dX11_feasts_16 : decode cX11_feasts 16 = .ok (.bipush 7, 2) := by decide +kernel
theorem dX11_feasts_18 : decode cX11_feasts 18 = .ok (.if_icmp .gt 22, 3) := by decide +kernel
theorem dX11_feasts_21 : decode cX11_feasts 21 = .ok (.iload_n 3, 1) := by decide +kernel
theorem dX11_feasts_22 : decode cX11_feasts 22 = .ok (.iconst 2, 1) := by decide +kernel
theorem dX11_feasts_23 : decode cX11_feasts 23 = .ok (.if_icmp .lt 17, 3) := by decide +kernel
theorem dX11_feasts_26 : decode cX11_feasts 26 = .ok (.iload_n 3, 1) := by decide +kernel
theorem dX11_feasts_27 : decode cX11_feasts 27 = .ok (.bipush 20, 2) := by decide +kernel
theorem dX11_feasts_29 : decode cX11_feasts 29 = .ok (.if_icmp .gt 11, 3) := by decide +kernel
theorem dX11_feasts_32 : decode cX11_feasts 32 = .ok (.iload 4, 2) := by decide +kernel
theorem dX11_feasts_34 : decode cX11_feasts 34 = .ok (.invokestatic 261, 3) := by decide +kernel
theorem dX11_feasts_37 : decode cX11_feasts 37 = .ok (.ifCond .ne 7, 3) := by decide +kernel
theorem dX11_feasts_40 : decode cX11_feasts 40 = .ok (.ldc2_w 264, 3) := by decide +kernel
theorem dX11_feasts_43 : decode cX11_feasts 43 = .ok (.lreturn, 1) := by decide +kernel
theorem dX11_feasts_44 : decode cX11_feasts 44 = .ok (.lconst 0, 1) := by decide +kernel
theorem dX11_feasts_45 : decode cX11_feasts 45 = .ok (.lstore 5, 2) := by decide +kernel
theorem dX11_feasts_47 : decode cX11_feasts 47 = .ok (.iconst 0, 1) := by decide +kernel
theorem dX11_feasts_48 : decode cX11_feasts 48 = .ok (.istore 7, 2) := by decide +kernel
theorem dX11_feasts_50 : decode cX11_feasts 50 = .ok (.iload 7, 2) := by decide +kernel
theorem dX11_feasts_52 : decode cX11_feasts 52 = .ok (.iconst 1, 1) := by decide +kernel
theorem dX11_feasts_53 : decode cX11_feasts 53 = .ok (.iload_n 2, 1) := by decide +kernel
theorem dX11_feasts_54 : decode cX11_feasts 54 = .ok (.ishl, 1) := by decide +kernel
theorem dX11_feasts_55 : decode cX11_feasts 55 = .ok (.if_icmp .ge 38, 3) := by decide +kernel
theorem dX11_feasts_58 : decode cX11_feasts 58 = .ok (.aload_n 0, 1) := by decide +kernel
theorem dX11_feasts_59 : decode cX11_feasts 59 = .ok (.iload_n 1, 1) := by decide +kernel
theorem dX11_feasts_60 : decode cX11_feasts 60 = .ok (.iload_n 2, 1) := by decide +kernel
theorem dX11_feasts_61 : decode cX11_feasts 61 = .ok (.iload 7, 2) := by decide +kernel
theorem dX11_feasts_63 : decode cX11_feasts 63 = .ok (.invokevirtual 266, 3) := by decide +kernel
theorem dX11_feasts_66 : decode cX11_feasts 66 = .ok (.ifCond .eq 21, 3) := by decide +kernel
theorem dX11_feasts_69 : decode cX11_feasts 69 = .ok (.lload 5, 2) := by decide +kernel
theorem dX11_feasts_71 : decode cX11_feasts 71 = .ok (.iload_n 3, 1) := by decide +kernel
theorem dX11_feasts_72 : decode cX11_feasts 72 = .ok (.iconst 1, 1) := by decide +kernel
theorem dX11_feasts_73 : decode cX11_feasts 73 = .ok (.isub, 1) := by decide +kernel
theorem dX11_feasts_74 : decode cX11_feasts 74 = .ok (.iload_n 2, 1) := by decide +kernel
theorem dX11_feasts_75 : decode cX11_feasts 75 = .ok (.iload 7, 2) := by decide +kernel
theorem dX11_feasts_77 : decode cX11_feasts 77 = .ok (.invokestatic 269, 3) := by decide +kernel
theorem dX11_feasts_80 : decode cX11_feasts 80 = .ok (.isub, 1) := by decide +kernel
theorem dX11_feasts_81 : decode cX11_feasts 81 = .ok (.invokestatic 274, 3) := by decide +kernel
theorem dX11_feasts_84 : decode cX11_feasts 84 = .ok (.ladd, 1) := by decide +kernel
theorem dX11_feasts_85 : decode cX11_feasts 85 = .ok (.lstore 5, 2) := by decide +kernel
theorem dX11_feasts_87 : decode cX11_feasts 87 = .ok (.iinc 7 1, 3) := by decide +kernel
theorem dX11_feasts_90 : decode cX11_feasts 90 = .ok (.goto (-40), 3) := by decide +kernel
theorem dX11_feasts_93 : decode cX11_feasts 93 = .ok (.lload 5, 2) := by decide +kernel
theorem dX11_feasts_95 : decode cX11_feasts 95 = .ok (.iload_n 3, 1) := by decide +kernel
theorem dX11_feasts_96 : decode cX11_feasts 96 = .ok (.iload_n 2, 1) := by decide +kernel
theorem dX11_feasts_97 : decode cX11_feasts 97 = .ok (.invokestatic 274, 3) := by decide +kernel
theorem dX11_feasts_100 : decode cX11_feasts 100 = .ok (.iload 4, 2) := by decide +kernel
theorem dX11_feasts_102 : decode cX11_feasts 102 = .ok (.invokestatic 278, 3) := by decide +kernel
theorem dX11_feasts_105 : decode cX11_feasts 105 = .ok (.lreturn, 1) := by decide +kernel
theorem dX11_mean_0 : decode cX11_mean 0 = .ok (.iload_n 1, 1) := by decide +kernel
theorem dX11_mean_1 : decode cX11_mean 1 = .ok (.invokestatic 261, 3) := by decide +kernel
theorem dX11_mean_4 : decode cX11_mean 4 = .ok (.ifCond .ne 7, 3) := by decide +kernel
theorem dX11_mean_7 : decode cX11_mean 7 = .ok (.ldc2_w 264, 3) := by decide +kernel
theorem dX11_mean_10 : decode cX11_mean 10 = .ok (.lreturn, 1) := by decide +kernel
theorem dX11_mean_11 : decode cX11_mean 11 = .ok (.iconst 0, 1) := by decide +kernel
theorem dX11_mean_12 : decode cX11_mean 12 = .ok (.istore_n 2, 1) := by decide +kernel
theorem dX11_mean_13 : decode cX11_mean 13 = .ok (.iconst 0, 1) := by decide +kernel
theorem dX11_mean_14 : decode cX11_mean 14 = .ok (.istore_n 3, 1) := by decide +kernel
theorem dX11_mean_15 : decode cX11_mean 15 = .ok (.iconst 0, 1) := by decide +kernel
theorem dX11_mean_16 : decode cX11_mean 16 = .ok (.istore 4, 2) := by decide +kernel
theorem dX11_mean_18 : decode cX11_mean 18 = .ok (.iload 4, 2) := by decide +kernel
theorem dX11_mean_20 : decode cX11_mean 20 = .ok (.aload_n 0, 1) := by decide +kernel
theorem dX11_mean_21 : decode cX11_mean 21 = .ok (.getfield 10, 3) := by decide +kernel
theorem dX11_mean_24 : decode cX11_mean 24 = .ok (.getfield 134, 3) := by decide +kernel
theorem dX11_mean_27 : decode cX11_mean 27 = .ok (.if_icmp .ge 48, 3) := by decide +kernel
theorem dX11_mean_30 : decode cX11_mean 30 = .ok (.aload_n 0, 1) := by decide +kernel
theorem dX11_mean_31 : decode cX11_mean 31 = .ok (.getfield 10, 3) := by decide +kernel
theorem dX11_mean_34 : decode cX11_mean 34 = .ok (.iload 4, 2) := by decide +kernel
theorem dX11_mean_36 : decode cX11_mean 36 = .ok (.invokevirtual 107, 3) := by decide +kernel
theorem dX11_mean_39 : decode cX11_mean 39 = .ok (.ifCond .ne 30, 3) := by decide +kernel
theorem dX11_mean_42 : decode cX11_mean 42 = .ok (.iinc 2 1, 3) := by decide +kernel
theorem dX11_mean_45 : decode cX11_mean 45 = .ok (.iload_n 3, 1) := by decide +kernel
theorem dX11_mean_46 : decode cX11_mean 46 = .ok (.aload_n 0, 1) := by decide +kernel
theorem dX11_mean_47 : decode cX11_mean 47 = .ok (.getfield 10, 3) := by decide +kernel
theorem dX11_mean_50 : decode cX11_mean 50 = .ok (.getfield 98, 3) := by decide +kernel
theorem dX11_mean_53 : decode cX11_mean 53 = .ok (.iload 4, 2) := by decide +kernel
theorem dX11_mean_55 : decode cX11_mean 55 = .ok (.iaload, 1) := by decide +kernel
theorem dX11_mean_56 : decode cX11_mean 56 = .ok (.aload_n 0, 1) := by decide +kernel
theorem dX11_mean_57 : decode cX11_mean 57 = .ok (.getfield 10, 3) := by decide +kernel
theorem dX11_mean_60 : decode cX11_mean 60 = .ok (.getfield 95, 3) := by decide +kernel
theorem dX11_mean_63 : decode cX11_mean 63 = .ok (.iload 4, 2) := by decide +kernel
theorem dX11_mean_65 : decode cX11_mean 65 = .ok (.iaload, 1) := by decide +kernel
theorem dX11_mean_66 : decode cX11_mean 66 = .ok (.isub, 1) := by decide +kernel
theorem dX11_mean_67 : decode cX11_mean 67 = .ok (.iadd, 1) := by decide +kernel
theorem dX11_mean_68 : decode cX11_mean 68 = .ok (.istore_n 3, 1) := by decide +kernel
theorem dX11_mean_69 : decode cX11_mean 69 = .ok (.iinc 4 1, 3) := by decide +kernel
theorem dX11_mean_72 : decode cX11_mean 72 = .ok (.goto (-54), 3) := by decide +kernel
theorem dX11_mean_75 : decode cX11_mean 75 = .ok (.iload_n 3, 1) := by decide +kernel
theorem dX11_mean_76 : decode cX11_mean 76 = .ok (.i2l, 1) := by decide +kernel
theorem dX11_mean_77 : decode cX11_mean 77 = .ok (.iload_n 2, 1) := by decide +kernel
theorem dX11_mean_78 : decode cX11_mean 78 = .ok (.iconst 1, 1) := by decide +kernel
theorem dX11_mean_79 : decode cX11_mean 79 = .ok (.invokestatic 229, 3) := by decide +kernel
theorem dX11_mean_82 : decode cX11_mean 82 = .ok (.i2l, 1) := by decide +kernel
theorem dX11_mean_83 : decode cX11_mean 83 = .ok (.iload_n 1, 1) := by decide +kernel
theorem dX11_mean_84 : decode cX11_mean 84 = .ok (.invokestatic 278, 3) := by decide +kernel
theorem dX11_mean_87 : decode cX11_mean 87 = .ok (.lreturn, 1) := by decide +kernel
theorem dX11_kindsBy_0 : decode cX11_kindsBy 0 = .ok (.iconst 0, 1) := by decide +kernel
theorem dX11_kindsBy_1 : decode cX11_kindsBy 1 = .ok (.istore_n 3, 1) := by decide +kernel
theorem dX11_kindsBy_2 : decode cX11_kindsBy 2 = .ok (.iconst 0, 1) := by decide +kernel
theorem dX11_kindsBy_3 : decode cX11_kindsBy 3 = .ok (.istore 4, 2) := by decide +kernel
theorem dX11_kindsBy_5 : decode cX11_kindsBy 5 = .ok (.iload 4, 2) := by decide +kernel
theorem dX11_kindsBy_7 : decode cX11_kindsBy 7 = .ok (.bipush 8, 2) := by decide +kernel
theorem dX11_kindsBy_9 : decode cX11_kindsBy 9 = .ok (.if_icmp .ge 42, 3) := by decide +kernel
theorem dX11_kindsBy_12 : decode cX11_kindsBy 12 = .ok (.aload_n 0, 1) := by decide +kernel
theorem dX11_kindsBy_13 : decode cX11_kindsBy 13 = .ok (.iload 4, 2) := by decide +kernel
theorem dX11_kindsBy_15 : decode cX11_kindsBy 15 = .ok (.aload_n 0, 1) := by decide +kernel
theorem dX11_kindsBy_16 : decode cX11_kindsBy 16 = .ok (.getfield 10, 3) := by decide +kernel
theorem dX11_kindsBy_19 : decode cX11_kindsBy 19 = .ok (.getfield 87, 3) := by decide +kernel
theorem dX11_kindsBy_22 : decode cX11_kindsBy 22 = .ok (.iload_n 2, 1) := by decide +kernel
theorem dX11_kindsBy_23 : decode cX11_kindsBy 23 = .ok (.aaload, 1) := by decide +kernel
theorem dX11_kindsBy_24 : decode cX11_kindsBy 24 = .ok (.getfield 92, 3) := by decide +kernel
theorem dX11_kindsBy_27 : decode cX11_kindsBy 27 = .ok (.invokestatic 282, 3) := by decide +kernel
theorem dX11_kindsBy_30 : decode cX11_kindsBy 30 = .ok (.aload_n 1, 1) := by decide +kernel
theorem dX11_kindsBy_31 : decode cX11_kindsBy 31 = .ok (.iload_n 2, 1) := by decide +kernel
theorem dX11_kindsBy_32 : decode cX11_kindsBy 32 = .ok (.invokevirtual 286, 3) := by decide +kernel
theorem dX11_kindsBy_35 : decode cX11_kindsBy 35 = .ok (.ifCond .eq 10, 3) := by decide +kernel
theorem dX11_kindsBy_38 : decode cX11_kindsBy 38 = .ok (.iload_n 3, 1) := by decide +kernel
theorem dX11_kindsBy_39 : decode cX11_kindsBy 39 = .ok (.iconst 1, 1) := by decide +kernel
theorem dX11_kindsBy_40 : decode cX11_kindsBy 40 = .ok (.iload 4, 2) := by decide +kernel
theorem dX11_kindsBy_42 : decode cX11_kindsBy 42 = .ok (.ishl, 1) := by decide +kernel
theorem dX11_kindsBy_43 : decode cX11_kindsBy 43 = .ok (.ior, 1) := by decide +kernel
theorem dX11_kindsBy_44 : decode cX11_kindsBy 44 = .ok (.istore_n 3, 1) := by decide +kernel
theorem dX11_kindsBy_45 : decode cX11_kindsBy 45 = .ok (.iinc 4 1, 3) := by decide +kernel
theorem dX11_kindsBy_48 : decode cX11_kindsBy 48 = .ok (.goto (-43), 3) := by decide +kernel
theorem dX11_kindsBy_51 : decode cX11_kindsBy 51 = .ok (.iload_n 3, 1) := by decide +kernel
theorem dX11_kindsBy_52 : decode cX11_kindsBy 52 = .ok (.ireturn, 1) := by decide +kernel
theorem dX11_figuresBy_0 : decode cX11_figuresBy 0 = .ok (.iconst 0, 1) := by decide +kernel
theorem dX11_figuresBy_1 : decode cX11_figuresBy 1 = .ok (.istore_n 3, 1) := by decide +kernel
theorem dX11_figuresBy_2 : decode cX11_figuresBy 2 = .ok (.iconst 0, 1) := by decide +kernel
theorem dX11_figuresBy_3 : decode cX11_figuresBy 3 = .ok (.istore 4, 2) := by decide +kernel
theorem dX11_figuresBy_5 : decode cX11_figuresBy 5 = .ok (.iload 4, 2) := by decide +kernel
theorem dX11_figuresBy_7 : decode cX11_figuresBy 7 = .ok (.bipush 10, 2) := by decide +kernel
theorem dX11_figuresBy_9 : decode cX11_figuresBy 9 = .ok (.if_icmp .ge 42, 3) := by decide +kernel
theorem dX11_figuresBy_12 : decode cX11_figuresBy 12 = .ok (.aload_n 0, 1) := by decide +kernel
theorem dX11_figuresBy_13 : decode cX11_figuresBy 13 = .ok (.aload_n 0, 1) := by decide +kernel
theorem dX11_figuresBy_14 : decode cX11_figuresBy 14 = .ok (.getfield 10, 3) := by decide +kernel
theorem dX11_figuresBy_17 : decode cX11_figuresBy 17 = .ok (.getfield 87, 3) := by decide +kernel
theorem dX11_figuresBy_20 : decode cX11_figuresBy 20 = .ok (.iload_n 2, 1) := by decide +kernel
theorem dX11_figuresBy_21 : decode cX11_figuresBy 21 = .ok (.aaload, 1) := by decide +kernel
theorem dX11_figuresBy_22 : decode cX11_figuresBy 22 = .ok (.getfield 90, 3) := by decide +kernel
theorem dX11_figuresBy_25 : decode cX11_figuresBy 25 = .ok (.iload 4, 2) := by decide +kernel
theorem dX11_figuresBy_27 : decode cX11_figuresBy 27 = .ok (.invokestatic 282, 3) := by decide +kernel
theorem dX11_figuresBy_30 : decode cX11_figuresBy 30 = .ok (.aload_n 1, 1) := by decide +kernel
theorem dX11_figuresBy_31 : decode cX11_figuresBy 31 = .ok (.iload_n 2, 1) := by decide +kernel
theorem dX11_figuresBy_32 : decode cX11_figuresBy 32 = .ok (.invokevirtual 286, 3) := by decide +kernel
theorem dX11_figuresBy_35 : decode cX11_figuresBy 35 = .ok (.ifCond .eq 10, 3) := by decide +kernel
theorem dX11_figuresBy_38 : decode cX11_figuresBy 38 = .ok (.iload_n 3, 1) := by decide +kernel
theorem dX11_figuresBy_39 : decode cX11_figuresBy 39 = .ok (.iconst 1, 1) := by decide +kernel
theorem dX11_figuresBy_40 : decode cX11_figuresBy 40 = .ok (.iload 4, 2) := by decide +kernel
theorem dX11_figuresBy_42 : decode cX11_figuresBy 42 = .ok (.ishl, 1) := by decide +kernel
theorem dX11_figuresBy_43 : decode cX11_figuresBy 43 = .ok (.ior, 1) := by decide +kernel
theorem dX11_figuresBy_44 : decode cX11_figuresBy 44 = .ok (.istore_n 3, 1) := by decide +kernel
theorem dX11_figuresBy_45 : decode cX11_figuresBy 45 = .ok (.iinc 4 1, 3) := by decide +kernel
theorem dX11_figuresBy_48 : decode cX11_figuresBy 48 = .ok (.goto (-43), 3) := by decide +kernel
theorem dX11_figuresBy_51 : decode cX11_figuresBy 51 = .ok (.iload_n 3, 1) := by decide +kernel
theorem dX11_figuresBy_52 : decode cX11_figuresBy 52 = .ok (.ireturn, 1) := by decide +kernel
theorem dX11_weighedSoAs_0 : decode cX11_weighedSoAs 0 = .ok (.aload_n 0, 1) := by decide +kernel
theorem dX11_weighedSoAs_1 : decode cX11_weighedSoAs 1 = .ok (.getfield 16, 3) := by decide +kernel
theorem dX11_weighedSoAs_4 : decode cX11_weighedSoAs 4 = .ok (.aload_n 0, 1) := by decide +kernel
theorem dX11_weighedSoAs_5 : decode cX11_weighedSoAs 5 = .ok (.getfield 10, 3) := by decide +kernel
theorem dX11_weighedSoAs_8 : decode cX11_weighedSoAs 8 = .ok (.invokevirtual 70, 3) := by decide +kernel
theorem dX11_weighedSoAs_11 : decode cX11_weighedSoAs 11 = .ok (.aload_n 0, 1) := by decide +kernel
theorem dX11_weighedSoAs_12 : decode cX11_weighedSoAs 12 = .ok (.getfield 16, 3) := by decide +kernel
theorem dX11_weighedSoAs_15 : decode cX11_weighedSoAs 15 = .ok (.getfield 87, 3) := by decide +kernel
theorem dX11_weighedSoAs_18 : decode cX11_weighedSoAs 18 = .ok (.iload_n 3, 1) := by decide +kernel
theorem dX11_weighedSoAs_19 : decode cX11_weighedSoAs 19 = .ok (.aload_n 1, 1) := by decide +kernel
theorem dX11_weighedSoAs_20 : decode cX11_weighedSoAs 20 = .ok (.aastore, 1) := by decide +kernel
theorem dX11_weighedSoAs_21 : decode cX11_weighedSoAs 21 = .ok (.iconst 0, 1) := by decide +kernel
theorem dX11_weighedSoAs_22 : decode cX11_weighedSoAs 22 = .ok (.istore 4, 2) := by decide +kernel
theorem dX11_weighedSoAs_24 : decode cX11_weighedSoAs 24 = .ok (.iload 4, 2) := by decide +kernel
theorem dX11_weighedSoAs_26 : decode cX11_weighedSoAs 26 = .ok (.aload_n 2, 1) := by decide +kernel
theorem dX11_weighedSoAs_27 : decode cX11_weighedSoAs 27 = .ok (.invokevirtual 74, 3) := by decide +kernel
theorem dX11_weighedSoAs_30 : decode cX11_weighedSoAs 30 = .ok (.if_icmp .ge 46, 3) := by decide +kernel
theorem dX11_weighedSoAs_33 : decode cX11_weighedSoAs 33 = .ok (.aload_n 2, 1) := by decide +kernel
theorem dX11_weighedSoAs_34 : decode cX11_weighedSoAs 34 = .ok (.iload 4, 2) := by decide +kernel
theorem dX11_weighedSoAs_36 : decode cX11_weighedSoAs 36 = .ok (.invokevirtual 290, 3) := by decide +kernel
theorem dX11_weighedSoAs_39 : decode cX11_weighedSoAs 39 = .ok (.ifCond .ne 23, 3) := by decide +kernel
theorem dX11_weighedSoAs_42 : decode cX11_weighedSoAs 42 = .ok (.aload_n 2, 1) := by decide +kernel
theorem dX11_weighedSoAs_43 : decode cX11_weighedSoAs 43 = .ok (.iload 4, 2) := by decide +kernel
theorem dX11_weighedSoAs_45 : decode cX11_weighedSoAs 45 = .ok (.invokevirtual 293, 3) := by decide +kernel
theorem dX11_weighedSoAs_48 : decode cX11_weighedSoAs 48 = .ok (.aload_n 0, 1) := by decide +kernel
theorem dX11_weighedSoAs_49 : decode cX11_weighedSoAs 49 = .ok (.getfield 16, 3) := by decide +kernel
theorem dX11_weighedSoAs_52 : decode cX11_weighedSoAs 52 = .ok (.getfield 95, 3) := by decide +kernel
theorem dX11_weighedSoAs_55 : decode cX11_weighedSoAs 55 = .ok (.iload_n 3, 1) := by decide +kernel
theorem dX11_weighedSoAs_56 : decode cX11_weighedSoAs 56 = .ok (.iaload, 1) := by decide +kernel
theorem dX11_weighedSoAs_57 : decode cX11_weighedSoAs 57 = .ok (.if_icmp .eq 5, 3) := by decide +kernel
theorem dX11_weighedSoAs_60 : decode cX11_weighedSoAs 60 = .ok (.iconst 0, 1) := by decide +kernel
theorem dX11_weighedSoAs_61 : decode cX11_weighedSoAs 61 = .ok (.ireturn, 1) := by decide +kernel
theorem dX11_weighedSoAs_62 : decode cX11_weighedSoAs 62 = .ok (.aload_n 0, 1) := by decide +kernel
theorem dX11_weighedSoAs_63 : decode cX11_weighedSoAs 63 = .ok (.getfield 16, 3) := by decide +kernel
theorem dX11_weighedSoAs_66 : decode cX11_weighedSoAs 66 = .ok (.iload_n 3, 1) := by decide +kernel
theorem dX11_weighedSoAs_67 : decode cX11_weighedSoAs 67 = .ok (.invokevirtual 186, 3) := by decide +kernel
theorem dX11_weighedSoAs_70 : decode cX11_weighedSoAs 70 = .ok (.iinc 4 1, 3) := by decide +kernel
theorem dX11_weighedSoAs_73 : decode cX11_weighedSoAs 73 = .ok (.goto (-49), 3) := by decide +kernel
theorem dX11_weighedSoAs_76 : decode cX11_weighedSoAs 76 = .ok (.iconst 1, 1) := by decide +kernel
theorem dX11_weighedSoAs_77 : decode cX11_weighedSoAs 77 = .ok (.ireturn, 1) := by decide +kernel
theorem dX11_enteredBy_0 : decode cX11_enteredBy 0 = .ok (.iconst 0, 1) := by decide +kernel
theorem dX11_enteredBy_1 : decode cX11_enteredBy 1 = .ok (.istore 4, 2) := by decide +kernel
theorem dX11_enteredBy_3 : decode cX11_enteredBy 3 = .ok (.bipush 120, 2) := by decide +kernel
theorem dX11_enteredBy_5 : decode cX11_enteredBy 5 = .ok (.istore 5, 2) := by decide +kernel
theorem dX11_enteredBy_7 : decode cX11_enteredBy 7 = .ok (.aload_n 0, 1) := by decide +kernel
theorem dX11_enteredBy_8 : decode cX11_enteredBy 8 = .ok (.getfield 10, 3) := by decide +kernel
theorem dX11_enteredBy_11 : decode cX11_enteredBy 11 = .ok (.iload_n 2, 1) := by decide +kernel
theorem dX11_enteredBy_12 : decode cX11_enteredBy 12 = .ok (.invokevirtual 107, 3) := by decide +kernel
theorem dX11_enteredBy_15 : decode cX11_enteredBy 15 = .ok (.ifCond .eq 8, 3) := by decide +kernel
theorem dX11_enteredBy_18 : decode cX11_enteredBy 18 = .ok (.bipush 120, 2) := by decide +kernel
theorem dX11_enteredBy_20 : decode cX11_enteredBy 20 = .ok (.goto 4, 3) := by decide +kernel
theorem dX11_enteredBy_23 : decode cX11_enteredBy 23 = .ok (.iconst (-1), 1) := by decide +kernel
theorem dX11_enteredBy_24 : decode cX11_enteredBy 24 = .ok (.istore 6, 2) := by decide +kernel
theorem dX11_enteredBy_26 : decode cX11_enteredBy 26 = .ok (.aload_n 0, 1) := by decide +kernel
theorem dX11_enteredBy_27 : decode cX11_enteredBy 27 = .ok (.getfield 16, 3) := by decide +kernel
theorem dX11_enteredBy_30 : decode cX11_enteredBy 30 = .ok (.aload_n 0, 1) := by decide +kernel
theorem dX11_enteredBy_31 : decode cX11_enteredBy 31 = .ok (.getfield 10, 3) := by decide +kernel
theorem dX11_enteredBy_34 : decode cX11_enteredBy 34 = .ok (.invokevirtual 70, 3) := by decide +kernel
theorem dX11_enteredBy_37 : decode cX11_enteredBy 37 = .ok (.aload_n 0, 1) := by decide +kernel
theorem dX11_enteredBy_38 : decode cX11_enteredBy 38 = .ok (.getfield 16, 3) := by decide +kernel
theorem dX11_enteredBy_41 : decode cX11_enteredBy 41 = .ok (.getfield 98, 3) := by decide +kernel
theorem dX11_enteredBy_44 : decode cX11_enteredBy 44 = .ok (.iload_n 2, 1) := by decide +kernel
theorem dX11_enteredBy_45 : decode cX11_enteredBy 45 = .ok (.iconst 0, 1) := by decide +kernel
theorem dX11_enteredBy_46 : decode cX11_enteredBy 46 = .ok (.iastore, 1) := by decide +kernel
theorem dX11_enteredBy_47 : decode cX11_enteredBy 47 = .ok (.iconst 0, 1) := by decide +kernel
theorem dX11_enteredBy_48 : decode cX11_enteredBy 48 = .ok (.istore 7, 2) := by decide +kernel
theorem dX11_enteredBy_50 : decode cX11_enteredBy 50 = .ok (.iload 7, 2) := by decide +kernel
theorem dX11_enteredBy_52 : decode cX11_enteredBy 52 = .ok (.aload_n 1, 1) := by decide +kernel
theorem dX11_enteredBy_53 : decode cX11_enteredBy 53 = .ok (.invokevirtual 74, 3) := by decide +kernel
theorem dX11_enteredBy_56 : decode cX11_enteredBy 56 = .ok (.if_icmp .ge 99, 3) := by decide +kernel
theorem dX11_enteredBy_59 : decode cX11_enteredBy 59 = .ok (.aload_n 1, 1) := by decide +kernel
theorem dX11_enteredBy_60 : decode cX11_enteredBy 60 = .ok (.iload 7, 2) := by decide +kernel
theorem dX11_enteredBy_62 : decode cX11_enteredBy 62 = .ok (.invokevirtual 290, 3) := by decide +kernel
theorem dX11_enteredBy_65 : decode cX11_enteredBy 65 = .ok (.ifCond .ne 49, 3) := by decide +kernel
theorem dX11_enteredBy_68 : decode cX11_enteredBy 68 = .ok (.aload_n 1, 1) := by decide +kernel
theorem dX11_enteredBy_69 : decode cX11_enteredBy 69 = .ok (.iload 7, 2) := by decide +kernel
theorem dX11_enteredBy_71 : decode cX11_enteredBy 71 = .ok (.invokevirtual 293, 3) := by decide +kernel
theorem dX11_enteredBy_74 : decode cX11_enteredBy 74 = .ok (.ifCond .ne 17, 3) := by decide +kernel
theorem dX11_enteredBy_77 : decode cX11_enteredBy 77 = .ok (.iload 4, 2) := by decide +kernel
theorem dX11_enteredBy_79 : decode cX11_enteredBy 79 = .ok (.iload 6, 2) := by decide +kernel
theorem dX11_enteredBy_81 : decode cX11_enteredBy 81 = .ok (.iconst 1, 1) := by decide +kernel
theorem dX11_enteredBy_82 : decode cX11_enteredBy 82 = .ok (.iadd, 1) := by decide +kernel
theorem dX11_enteredBy_83 : decode cX11_enteredBy 83 = .ok (.invokestatic 229, 3) := by decide +kernel
theorem dX11_enteredBy_86 : decode cX11_enteredBy 86 = .ok (.istore 4, 2) := by decide +kernel
theorem dX11_enteredBy_88 : decode cX11_enteredBy 88 = .ok (.goto 26, 3) := by decide +kernel
theorem dX11_enteredBy_91 : decode cX11_enteredBy 91 = .ok (.iload 5, 2) := by decide +kernel
theorem dX11_enteredBy_93 : decode cX11_enteredBy 93 = .ok (.aload_n 1, 1) := by decide +kernel
theorem dX11_enteredBy_94 : decode cX11_enteredBy 94 = .ok (.iload 7, 2) := by decide +kernel
theorem dX11_enteredBy_96 : decode cX11_enteredBy 96 = .ok (.invokevirtual 293, 3) := by decide +kernel
theorem dX11_enteredBy_99 : decode cX11_enteredBy 99 = .ok (.iconst 1, 1) := by decide +kernel
theorem dX11_enteredBy_100 : decode cX11_enteredBy 100 = .ok (.if_icmp .ne 8, 3) := by decide +kernel
theorem dX11_enteredBy_103 : decode cX11_enteredBy 103 = .ok (.iload 6, 2) := by decide +kernel
theorem dX11_enteredBy_105 : decode cX11_enteredBy 105 = .ok (.goto 4, 3) := by decide +kernel
theorem dX11_enteredBy_108 : decode cX11_enteredBy 108 = .ok (.iconst (-1), 1) := by decide +kernel
theorem dX11_enteredBy_109 : decode cX11_enteredBy 109 = .ok (.invokestatic 296, 3) := by decide +kernel
theorem dX11_enteredBy_112 : decode cX11_enteredBy 112 = .ok (.istore 5, 2) := by decide +kernel
theorem dX11_enteredBy_114 : decode cX11_enteredBy 114 = .ok (.aload_n 0, 1) := by decide +kernel
theorem dX11_enteredBy_115 : decode cX11_enteredBy 115 = .ok (.getfield 16, 3) := by decide +kernel
theorem dX11_enteredBy_118 : decode cX11_enteredBy 118 = .ok (.iload_n 2, 1) := by decide +kernel
theorem dX11_enteredBy_119 : decode cX11_enteredBy 119 = .ok (.invokevirtual 186, 3) := by decide +kernel
theorem dX11_enteredBy_122 : decode cX11_enteredBy 122 = .ok (.aload_n 0, 1) := by decide +kernel
theorem dX11_enteredBy_123 : decode cX11_enteredBy 123 = .ok (.getfield 16, 3) := by decide +kernel
theorem dX11_enteredBy_126 : decode cX11_enteredBy 126 = .ok (.iload_n 2, 1) := by decide +kernel
theorem dX11_enteredBy_127 : decode cX11_enteredBy 127 = .ok (.invokevirtual 299, 3) := by decide +kernel
theorem dX11_enteredBy_130 : decode cX11_enteredBy 130 = .ok (.ifCond .eq 19, 3) := by decide +kernel
theorem dX11_enteredBy_133 : decode cX11_enteredBy 133 = .ok (.iload 6, 2) := by decide +kernel
theorem dX11_enteredBy_135 : decode cX11_enteredBy 135 = .ok (.aload_n 0, 1) := by decide +kernel
theorem dX11_enteredBy_136 : decode cX11_enteredBy 136 = .ok (.getfield 16, 3) := by decide +kernel
theorem dX11_enteredBy_139 : decode cX11_enteredBy 139 = .ok (.getfield 95, 3) := by decide +kernel
theorem dX11_enteredBy_142 : decode cX11_enteredBy 142 = .ok (.iload_n 2, 1) := by decide +kernel
theorem dX11_enteredBy_143 : decode cX11_enteredBy 143 = .ok (.iaload, 1) := by decide +kernel
theorem dX11_enteredBy_144 : decode cX11_enteredBy 144 = .ok (.invokestatic 296, 3) := by decide +kernel
theorem dX11_enteredBy_147 : decode cX11_enteredBy 147 = .ok (.istore 6, 2) := by decide +kernel
theorem dX11_enteredBy_149 : decode cX11_enteredBy 149 = .ok (.iinc 7 1, 3) := by decide +kernel
theorem dX11_enteredBy_152 : decode cX11_enteredBy 152 = .ok (.goto (-102), 3) := by decide +kernel
theorem dX11_enteredBy_155 : decode cX11_enteredBy 155 = .ok (.iload_n 3, 1) := by decide +kernel
theorem dX11_enteredBy_156 : decode cX11_enteredBy 156 = .ok (.ifCond .ne 15, 3) := by decide +kernel
theorem dX11_enteredBy_159 : decode cX11_enteredBy 159 = .ok (.iconst 0, 1) := by decide +kernel
theorem dX11_enteredBy_160 : decode cX11_enteredBy 160 = .ok (.iload 5, 2) := by decide +kernel
theorem dX11_enteredBy_162 : decode cX11_enteredBy 162 = .ok (.iload 4, 2) := by decide +kernel
theorem dX11_enteredBy_164 : decode cX11_enteredBy 164 = .ok (.isub, 1) := by decide +kernel
theorem dX11_enteredBy_165 : decode cX11_enteredBy 165 = .ok (.iconst 1, 1) := by decide +kernel
theorem dX11_enteredBy_166 : decode cX11_enteredBy 166 = .ok (.iadd, 1) := by decide +kernel
theorem dX11_enteredBy_167 : decode cX11_enteredBy 167 = .ok (.invokestatic 229, 3) := by decide +kernel
theorem dX11_enteredBy_170 : decode cX11_enteredBy 170 = .ok (.ireturn, 1) := by decide +kernel
theorem dX11_enteredBy_171 : decode cX11_enteredBy 171 = .ok (.iload 4, 2) := by decide +kernel
theorem dX11_enteredBy_173 : decode cX11_enteredBy 173 = .ok (.iload 5, 2) := by decide +kernel
theorem dX11_enteredBy_175 : decode cX11_enteredBy 175 = .ok (.if_icmp .le 6, 3) := by decide +kernel
theorem dX11_enteredBy_178 : decode cX11_enteredBy 178 = .ok (.bipush (-4), 2) := by decide +kernel
theorem dX11_enteredBy_180 : decode cX11_enteredBy 180 = .ok (.ireturn, 1) := by decide +kernel
theorem dX11_enteredBy_181 : decode cX11_enteredBy 181 = .ok (.iload_n 3, 1) := by decide +kernel
theorem dX11_enteredBy_182 : decode cX11_enteredBy 182 = .ok (.iconst 1, 1) := by decide +kernel
theorem dX11_enteredBy_183 : decode cX11_enteredBy 183 = .ok (.if_icmp .ne 8, 3) := by decide +kernel
theorem dX11_enteredBy_186 : decode cX11_enteredBy 186 = .ok (.iload 4, 2) := by decide +kernel
theorem dX11_enteredBy_188 : decode cX11_enteredBy 188 = .ok (.goto 5, 3) := by decide +kernel
theorem dX11_enteredBy_191 : decode cX11_enteredBy 191 = .ok (.iload 5, 2) := by decide +kernel
theorem dX11_enteredBy_193 : decode cX11_enteredBy 193 = .ok (.ireturn, 1) := by decide +kernel
theorem dX11_worthOfChoice_0 : decode cX11_worthOfChoice 0 = .ok (.aload_n 0, 1) := by decide +kernel
theorem dX11_worthOfChoice_1 : decode cX11_worthOfChoice 1 = .ok (.getfield 16, 3) := by decide +kernel
theorem dX11_worthOfChoice_4 : decode cX11_worthOfChoice 4 = .ok (.aload_n 0, 1) := by decide +kernel
theorem dX11_worthOfChoice_5 : decode cX11_worthOfChoice 5 = .ok (.getfield 10, 3) := by decide +kernel
theorem dX11_worthOfChoice_8 : decode cX11_worthOfChoice 8 = .ok (.invokevirtual 70, 3) := by decide +kernel
theorem dX11_worthOfChoice_11 : decode cX11_worthOfChoice 11 = .ok (.aload_n 0, 1) := by decide +kernel
theorem dX11_worthOfChoice_12 : decode cX11_worthOfChoice 12 = .ok (.getfield 16, 3) := by decide +kernel
theorem dX11_worthOfChoice_15 : decode cX11_worthOfChoice 15 = .ok (.iload_n 1, 1) := by decide +kernel
theorem dX11_worthOfChoice_16 : decode cX11_worthOfChoice 16 = .ok (.iload_n 2, 1) := by decide +kernel
theorem dX11_worthOfChoice_17 : decode cX11_worthOfChoice 17 = .ok (.iconst 1, 1) := by decide +kernel
theorem dX11_worthOfChoice_18 : decode cX11_worthOfChoice 18 = .ok (.if_icmp .ne 7, 3) := by decide +kernel
theorem dX11_worthOfChoice_21 : decode cX11_worthOfChoice 21 = .ok (.iconst 0, 1) := by decide +kernel
theorem dX11_worthOfChoice_22 : decode cX11_worthOfChoice 22 = .ok (.goto 11, 3) := by decide +kernel
theorem dX11_worthOfChoice_25 : decode cX11_worthOfChoice 25 = .ok (.aload_n 0, 1) := by decide +kernel
theorem dX11_worthOfChoice_26 : decode cX11_worthOfChoice 26 = .ok (.getfield 16, 3) := by decide +kernel
theorem dX11_worthOfChoice_29 : decode cX11_worthOfChoice 29 = .ok (.iload_n 1, 1) := by decide +kernel
theorem dX11_worthOfChoice_30 : decode cX11_worthOfChoice 30 = .ok (.invokevirtual 302, 3) := by decide +kernel
theorem dX11_worthOfChoice_33 : decode cX11_worthOfChoice 33 = .ok (.invokevirtual 305, 3) := by decide +kernel
theorem dX11_worthOfChoice_36 : decode cX11_worthOfChoice 36 = .ok (.iconst 1, 1) := by decide +kernel
theorem dX11_worthOfChoice_37 : decode cX11_worthOfChoice 37 = .ok (.istore 4, 2) := by decide +kernel
theorem dX11_worthOfChoice_39 : decode cX11_worthOfChoice 39 = .ok (.iload 4, 2) := by decide +kernel
theorem dX11_worthOfChoice_41 : decode cX11_worthOfChoice 41 = .ok (.iload_n 3, 1) := by decide +kernel
theorem dX11_worthOfChoice_42 : decode cX11_worthOfChoice 42 = .ok (.if_icmp .ge 17, 3) := by decide +kernel
theorem dX11_worthOfChoice_45 : decode cX11_worthOfChoice 45 = .ok (.aload_n 0, 1) := by decide +kernel
theorem dX11_worthOfChoice_46 : decode cX11_worthOfChoice 46 = .ok (.getfield 16, 3) := by decide +kernel
theorem dX11_worthOfChoice_49 : decode cX11_worthOfChoice 49 = .ok (.iload_n 1, 1) := by decide +kernel
theorem dX11_worthOfChoice_50 : decode cX11_worthOfChoice 50 = .ok (.invokevirtual 186, 3) := by decide +kernel
theorem dX11_worthOfChoice_53 : decode cX11_worthOfChoice 53 = .ok (.iinc 4 1, 3) := by decide +kernel
theorem dX11_worthOfChoice_56 : decode cX11_worthOfChoice 56 = .ok (.goto (-17), 3) := by decide +kernel
theorem dX11_worthOfChoice_59 : decode cX11_worthOfChoice 59 = .ok (.aload_n 0, 1) := by decide +kernel
theorem dX11_worthOfChoice_60 : decode cX11_worthOfChoice 60 = .ok (.getfield 16, 3) := by decide +kernel
theorem dX11_worthOfChoice_63 : decode cX11_worthOfChoice 63 = .ok (.iload_n 1, 1) := by decide +kernel
theorem dX11_worthOfChoice_64 : decode cX11_worthOfChoice 64 = .ok (.invokevirtual 107, 3) := by decide +kernel
theorem dX11_worthOfChoice_67 : decode cX11_worthOfChoice 67 = .ok (.ifCond .eq 18, 3) := by decide +kernel
theorem dX11_worthOfChoice_70 : decode cX11_worthOfChoice 70 = .ok (.aload_n 0, 1) := by decide +kernel
theorem dX11_worthOfChoice_71 : decode cX11_worthOfChoice 71 = .ok (.getfield 16, 3) := by decide +kernel
theorem dX11_worthOfChoice_74 : decode cX11_worthOfChoice 74 = .ok (.getfield 95, 3) := by decide +kernel
theorem dX11_worthOfChoice_77 : decode cX11_worthOfChoice 77 = .ok (.iload_n 1, 1) := by decide +kernel
theorem dX11_worthOfChoice_78 : decode cX11_worthOfChoice 78 = .ok (.iaload, 1) := by decide +kernel
theorem dX11_worthOfChoice_79 : decode cX11_worthOfChoice 79 = .ok (.bipush 20, 2) := by decide +kernel
theorem dX11_worthOfChoice_81 : decode cX11_worthOfChoice 81 = .ok (.idiv, 1) := by decide +kernel
theorem dX11_worthOfChoice_82 : decode cX11_worthOfChoice 82 = .ok (.goto 5, 3) := by decide +kernel
theorem dX11_worthOfChoice_85 : decode cX11_worthOfChoice 85 = .ok (.bipush 6, 2) := by decide +kernel
theorem dX11_worthOfChoice_87 : decode cX11_worthOfChoice 87 = .ok (.iload_n 2, 1) := by decide +kernel
theorem dX11_worthOfChoice_88 : decode cX11_worthOfChoice 88 = .ok (.isub, 1) := by decide +kernel
theorem dX11_worthOfChoice_89 : decode cX11_worthOfChoice 89 = .ok (.ireturn, 1) := by decide +kernel
theorem dX11_hasLeftBehindFeasts_0 : decode cX11_hasLeftBehindFeasts 0 = .ok (.aload_n 0, 1) := by decide +kernel
theorem dX11_hasLeftBehindFeasts_1 : decode cX11_hasLeftBehindFeasts 1 = .ok (.getfield 16, 3) := by decide +kernel
theorem dX11_hasLeftBehindFeasts_4 : decode cX11_hasLeftBehindFeasts 4 = .ok (.aload_n 0, 1) := by decide +kernel
theorem dX11_hasLeftBehindFeasts_5 : decode cX11_hasLeftBehindFeasts 5 = .ok (.getfield 10, 3) := by decide +kernel
theorem dX11_hasLeftBehindFeasts_8 : decode cX11_hasLeftBehindFeasts 8 = .ok (.invokevirtual 70, 3) := by decide +kernel
theorem dX11_hasLeftBehindFeasts_11 : decode cX11_hasLeftBehindFeasts 11 = .ok (.iconst 0, 1) := by decide +kernel
theorem dX11_hasLeftBehindFeasts_12 : decode cX11_hasLeftBehindFeasts 12 = .ok (.istore 4, 2) := by decide +kernel
theorem dX11_hasLeftBehindFeasts_14 : decode cX11_hasLeftBehindFeasts 14 = .ok (.iload 4, 2) := by decide +kernel
theorem dX11_hasLeftBehindFeasts_16 : decode cX11_hasLeftBehindFeasts 16 = .ok (.iload_n 2, 1) := by decide +kernel
theorem dX11_hasLeftBehindFeasts_17 : decode cX11_hasLeftBehindFeasts 17 = .ok (.if_icmp .ge 70, 3) := by decide +kernel
theorem dX11_hasLeftBehindFeasts_20 : decode cX11_hasLeftBehindFeasts 20 = .ok (.iload_n 3, 1) := by decide +kernel
theorem dX11_hasLeftBehindFeasts_21 : decode cX11_hasLeftBehindFeasts 21 = .ok (.iload 4, 2) := by decide +kernel
theorem dX11_hasLeftBehindFeasts_23 : decode cX11_hasLeftBehindFeasts 23 = .ok (.ishr, 1) := by decide +kernel
theorem dX11_hasLeftBehindFeasts_24 : decode cX11_hasLeftBehindFeasts 24 = .ok (.iconst 1, 1) := by decide +kernel
theorem dX11_hasLeftBehindFeasts_25 : decode cX11_hasLeftBehindFeasts 25 = .ok (.iand, 1) := by decide +kernel
theorem dX11_hasLeftBehindFeasts_26 : decode cX11_hasLeftBehindFeasts 26 = .ok (.iconst 1, 1) := by decide +kernel
theorem dX11_hasLeftBehindFeasts_27 : decode cX11_hasLeftBehindFeasts 27 = .ok (.if_icmp .ne 7, 3) := by decide +kernel
theorem dX11_hasLeftBehindFeasts_30 : decode cX11_hasLeftBehindFeasts 30 = .ok (.iconst 1, 1) := by decide +kernel
theorem dX11_hasLeftBehindFeasts_31 : decode cX11_hasLeftBehindFeasts 31 = .ok (.goto 4, 3) := by decide +kernel
theorem dX11_hasLeftBehindFeasts_34 : decode cX11_hasLeftBehindFeasts 34 = .ok (.iconst 0, 1) := by decide +kernel
theorem dX11_hasLeftBehindFeasts_35 : decode cX11_hasLeftBehindFeasts 35 = .ok (.istore 5, 2) := by decide +kernel
theorem dX11_hasLeftBehindFeasts_37 : decode cX11_hasLeftBehindFeasts 37 = .ok (.aload_n 0, 1) := by decide +kernel
theorem dX11_hasLeftBehindFeasts_38 : decode cX11_hasLeftBehindFeasts 38 = .ok (.getfield 16, 3) := by decide +kernel
theorem dX11_hasLeftBehindFeasts_41 : decode cX11_hasLeftBehindFeasts 41 = .ok (.iload 5, 2) := by decide +kernel
theorem dX11_hasLeftBehindFeasts_43 : decode cX11_hasLeftBehindFeasts 43 = .ok (.ifCond .eq 20, 3) := by decide +kernel
theorem dX11_hasLeftBehindFeasts_46 : decode cX11_hasLeftBehindFeasts 46 = .ok (.bipush 9, 2) := by decide +kernel
theorem dX11_hasLeftBehindFeasts_48 : decode cX11_hasLeftBehindFeasts 48 = .ok (.aload_n 0, 1) := by decide +kernel
theorem dX11_hasLeftBehindFeasts_49 : decode cX11_hasLeftBehindFeasts 49 = .ok (.getfield 10, 3) := by decide +kernel
theorem dX11_hasLeftBehindFeasts_52 : decode cX11_hasLeftBehindFeasts 52 = .ok (.getfield 159, 3) := by decide +kernel
theorem dX11_hasLeftBehindFeasts_55 : decode cX11_hasLeftBehindFeasts 55 = .ok (.iconst 3, 1) := by decide +kernel
theorem dX11_hasLeftBehindFeasts_56 : decode cX11_hasLeftBehindFeasts 56 = .ok (.iadd, 1) := by decide +kernel
theorem dX11_hasLeftBehindFeasts_57 : decode cX11_hasLeftBehindFeasts 57 = .ok (.invokestatic 296, 3) := by decide +kernel
theorem dX11_hasLeftBehindFeasts_60 : decode cX11_hasLeftBehindFeasts 60 = .ok (.goto 10, 3) := by decide +kernel
theorem dX11_hasLeftBehindFeasts_63 : decode cX11_hasLeftBehindFeasts 63 = .ok (.aload_n 0, 1) := by decide +kernel
theorem dX11_hasLeftBehindFeasts_64 : decode cX11_hasLeftBehindFeasts 64 = .ok (.getfield 10, 3) := by decide +kernel
theorem dX11_hasLeftBehindFeasts_67 : decode cX11_hasLeftBehindFeasts 67 = .ok (.getfield 159, 3) := by decide +kernel
theorem dX11_hasLeftBehindFeasts_70 : decode cX11_hasLeftBehindFeasts 70 = .ok (.putfield 159, 3) := by decide +kernel
theorem dX11_hasLeftBehindFeasts_73 : decode cX11_hasLeftBehindFeasts 73 = .ok (.aload_n 0, 1) := by decide +kernel
theorem dX11_hasLeftBehindFeasts_74 : decode cX11_hasLeftBehindFeasts 74 = .ok (.getfield 16, 3) := by decide +kernel
theorem dX11_hasLeftBehindFeasts_77 : decode cX11_hasLeftBehindFeasts 77 = .ok (.iload_n 1, 1) := by decide +kernel
theorem dX11_hasLeftBehindFeasts_78 : decode cX11_hasLeftBehindFeasts 78 = .ok (.invokevirtual 186, 3) := by decide +kernel
theorem dX11_hasLeftBehindFeasts_81 : decode cX11_hasLeftBehindFeasts 81 = .ok (.iinc 4 1, 3) := by decide +kernel
theorem dX11_hasLeftBehindFeasts_84 : decode cX11_hasLeftBehindFeasts 84 = .ok (.goto (-70), 3) := by decide +kernel
theorem dX11_hasLeftBehindFeasts_87 : decode cX11_hasLeftBehindFeasts 87 = .ok (.aload_n 0, 1) := by decide +kernel
theorem dX11_hasLeftBehindFeasts_88 : decode cX11_hasLeftBehindFeasts 88 = .ok (.getfield 16, 3) := by decide +kernel
theorem dX11_hasLeftBehindFeasts_91 : decode cX11_hasLeftBehindFeasts 91 = .ok (.iload_n 1, 1) := by decide +kernel
theorem dX11_hasLeftBehindFeasts_92 : decode cX11_hasLeftBehindFeasts 92 = .ok (.invokevirtual 107, 3) := by decide +kernel
theorem dX11_hasLeftBehindFeasts_95 : decode cX11_hasLeftBehindFeasts 95 = .ok (.ifCond .ne 7, 3) := by decide +kernel
theorem dX11_hasLeftBehindFeasts_98 : decode cX11_hasLeftBehindFeasts 98 = .ok (.iconst 1, 1) := by decide +kernel
theorem dX11_hasLeftBehindFeasts_99 : decode cX11_hasLeftBehindFeasts 99 = .ok (.goto 4, 3) := by decide +kernel
theorem dX11_hasLeftBehindFeasts_102 : decode cX11_hasLeftBehindFeasts 102 = .ok (.iconst 0, 1) := by decide +kernel
theorem dX11_hasLeftBehindFeasts_103 : decode cX11_hasLeftBehindFeasts 103 = .ok (.ireturn, 1) := by decide +kernel
theorem dX11_forged_0 : decode cX11_forged 0 = .ok (.iload_n 1, 1) := by decide +kernel
theorem dX11_forged_1 : decode cX11_forged 1 = .ok (.invokestatic 45, 3) := by decide +kernel
theorem dX11_forged_4 : decode cX11_forged 4 = .ok (.ifCond .ne 5, 3) := by decide +kernel
theorem dX11_forged_7 : decode cX11_forged 7 = .ok (.iconst (-1), 1) := by decide +kernel
theorem dX11_forged_8 : decode cX11_forged 8 = .ok (.ireturn, 1) := by decide +kernel
theorem dX11_forged_9 : decode cX11_forged 9 = .ok (.aload_n 0, 1) := by decide +kernel
theorem dX11_forged_10 : decode cX11_forged 10 = .ok (.iload_n 1, 1) := by decide +kernel
theorem dX11_forged_11 : decode cX11_forged 11 = .ok (.invokevirtual 49, 3) := by decide +kernel
theorem dX11_forged_14 : decode cX11_forged 14 = .ok (.astore_n 2, 1) := by decide +kernel
theorem dX11_forged_15 : decode cX11_forged 15 = .ok (.aload_n 2, 1) := by decide +kernel
theorem dX11_forged_16 : decode cX11_forged 16 = .ok (.ifnonnull 9, 3) := by decide +kernel
theorem dX11_forged_19 : decode cX11_forged 19 = .ok (.aload_n 0, 1) := by decide +kernel
theorem dX11_forged_20 : decode cX11_forged 20 = .ok (.iload_n 1, 1) := by decide +kernel
theorem dX11_forged_21 : decode cX11_forged 21 = .ok (.invokevirtual 53, 3) := by decide +kernel
theorem dX11_forged_24 : decode cX11_forged 24 = .ok (.ireturn, 1) := by decide +kernel
theorem dX11_forged_25 : decode cX11_forged 25 = .ok (.iconst 0, 1) := by decide +kernel
theorem dX11_forged_26 : decode cX11_forged 26 = .ok (.istore_n 3, 1) := by decide +kernel
theorem dX11_forged_27 : decode cX11_forged 27 = .ok (.iload_n 3, 1) := by decide +kernel
theorem dX11_forged_28 : decode cX11_forged 28 = .ok (.aload_n 2, 1) := by decide +kernel
theorem dX11_forged_29 : decode cX11_forged 29 = .ok (.invokevirtual 74, 3) := by decide +kernel
theorem dX11_forged_32 : decode cX11_forged 32 = .ok (.if_icmp .ge 39, 3) := by decide +kernel
theorem dX11_forged_35 : decode cX11_forged 35 = .ok (.aload_n 0, 1) := by decide +kernel
theorem dX11_forged_36 : decode cX11_forged 36 = .ok (.getfield 10, 3) := by decide +kernel
theorem dX11_forged_39 : decode cX11_forged 39 = .ok (.iload_n 3, 1) := by decide +kernel
theorem dX11_forged_40 : decode cX11_forged 40 = .ok (.invokevirtual 84, 3) := by decide +kernel
theorem dX11_forged_43 : decode cX11_forged 43 = .ok (.ifCond .eq 20, 3) := by decide +kernel
theorem dX11_forged_46 : decode cX11_forged 46 = .ok (.aload_n 2, 1) := by decide +kernel
theorem dX11_forged_47 : decode cX11_forged 47 = .ok (.iload_n 3, 1) := by decide +kernel
theorem dX11_forged_48 : decode cX11_forged 48 = .ok (.invokevirtual 293, 3) := by decide +kernel
theorem dX11_forged_51 : decode cX11_forged 51 = .ok (.aload_n 0, 1) := by decide +kernel
theorem dX11_forged_52 : decode cX11_forged 52 = .ok (.getfield 10, 3) := by decide +kernel
theorem dX11_forged_55 : decode cX11_forged 55 = .ok (.getfield 98, 3) := by decide +kernel
theorem dX11_forged_58 : decode cX11_forged 58 = .ok (.iload_n 3, 1) := by decide +kernel
theorem dX11_forged_59 : decode cX11_forged 59 = .ok (.iaload, 1) := by decide +kernel
theorem dX11_forged_60 : decode cX11_forged 60 = .ok (.if_icmp .eq 5, 3) := by decide +kernel
theorem dX11_forged_63 : decode cX11_forged 63 = .ok (.iload_n 3, 1) := by decide +kernel
theorem dX11_forged_64 : decode cX11_forged 64 = .ok (.ireturn, 1) := by decide +kernel
theorem dX11_forged_65 : decode cX11_forged 65 = .ok (.iinc 3 1, 3) := by decide +kernel
theorem dX11_forged_68 : decode cX11_forged 68 = .ok (.goto (-41), 3) := by decide +kernel
theorem dX11_forged_71 : decode cX11_forged 71 = .ok (.bipush (-4), 2) := by decide +kernel
theorem dX11_forged_73 : decode cX11_forged 73 = .ok (.ireturn, 1) := by decide +kernel
theorem dX11_judge_0 : decode cX11_judge 0 = .ok (.iload_n 1, 1) := by decide +kernel
theorem dX11_judge_1 : decode cX11_judge 1 = .ok (.invokestatic 45, 3) := by decide +kernel
theorem dX11_judge_4 : decode cX11_judge 4 = .ok (.ifCond .ne 5, 3) := by decide +kernel
theorem dX11_judge_7 : decode cX11_judge 7 = .ok (.iconst (-1), 1) := by decide +kernel
theorem dX11_judge_8 : decode cX11_judge 8 = .ok (.ireturn, 1) := by decide +kernel
theorem dX11_judge_9 : decode cX11_judge 9 = .ok (.aload_n 0, 1) := by decide +kernel
theorem dX11_judge_10 : decode cX11_judge 10 = .ok (.iload_n 1, 1) := by decide +kernel
theorem dX11_judge_11 : decode cX11_judge 11 = .ok (.invokevirtual 49, 3) := by decide +kernel
theorem dX11_judge_14 : decode cX11_judge 14 = .ok (.astore_n 2, 1) := by decide +kernel
theorem dX11_judge_15 : decode cX11_judge 15 = .ok (.aload_n 2, 1) := by decide +kernel
theorem dX11_judge_16 : decode cX11_judge 16 = .ok (.ifnonnull 9, 3) := by decide +kernel
theorem dX11_judge_19 : decode cX11_judge 19 = .ok (.aload_n 0, 1) := by decide +kernel
theorem dX11_judge_20 : decode cX11_judge 20 = .ok (.iload_n 1, 1) := by decide +kernel
theorem dX11_judge_21 : decode cX11_judge 21 = .ok (.invokevirtual 53, 3) := by decide +kernel
theorem dX11_judge_24 : decode cX11_judge 24 = .ok (.ireturn, 1) := by decide +kernel
theorem dX11_judge_25 : decode cX11_judge 25 = .ok (.aload_n 0, 1) := by decide +kernel
theorem dX11_judge_26 : decode cX11_judge 26 = .ok (.getfield 16, 3) := by decide +kernel
theorem dX11_judge_29 : decode cX11_judge 29 = .ok (.aload_n 0, 1) := by decide +kernel
theorem dX11_judge_30 : decode cX11_judge 30 = .ok (.getfield 10, 3) := by decide +kernel
theorem dX11_judge_33 : decode cX11_judge 33 = .ok (.invokevirtual 70, 3) := by decide +kernel
theorem dX11_judge_36 : decode cX11_judge 36 = .ok (.iconst 0, 1) := by decide +kernel
theorem dX11_judge_37 : decode cX11_judge 37 = .ok (.istore_n 3, 1) := by decide +kernel
theorem dX11_judge_38 : decode cX11_judge 38 = .ok (.iload_n 3, 1) := by decide +kernel
theorem dX11_judge_39 : decode cX11_judge 39 = .ok (.aload_n 2, 1) := by decide +kernel
theorem dX11_judge_40 : decode cX11_judge 40 = .ok (.invokevirtual 74, 3) := by decide +kernel
theorem dX11_judge_43 : decode cX11_judge 43 = .ok (.if_icmp .ge 41, 3) := by decide +kernel
theorem dX11_judge_46 : decode cX11_judge 46 = .ok (.aload_n 2, 1) := by decide +kernel
theorem dX11_judge_47 : decode cX11_judge 47 = .ok (.iload_n 3, 1) := by decide +kernel
theorem dX11_judge_48 : decode cX11_judge 48 = .ok (.invokevirtual 290, 3) := by decide +kernel
theorem dX11_judge_51 : decode cX11_judge 51 = .ok (.ifCond .ne 20, 3) := by decide +kernel
theorem dX11_judge_54 : decode cX11_judge 54 = .ok (.aload_n 2, 1) := by decide +kernel
theorem dX11_judge_55 : decode cX11_judge 55 = .ok (.iload_n 3, 1) := by decide +kernel
theorem dX11_judge_56 : decode cX11_judge 56 = .ok (.invokevirtual 293, 3) := by decide +kernel
theorem dX11_judge_59 : decode cX11_judge 59 = .ok (.aload_n 0, 1) := by decide +kernel
theorem dX11_judge_60 : decode cX11_judge 60 = .ok (.getfield 16, 3) := by decide +kernel
theorem dX11_judge_63 : decode cX11_judge 63 = .ok (.invokevirtual 180, 3) := by decide +kernel
theorem dX11_judge_66 : decode cX11_judge 66 = .ok (.if_icmp .eq 5, 3) := by decide +kernel
theorem dX11_judge_69 : decode cX11_judge 69 = .ok (.iload_n 3, 1) := by decide +kernel
theorem dX11_judge_70 : decode cX11_judge 70 = .ok (.ireturn, 1) := by decide +kernel
theorem dX11_judge_71 : decode cX11_judge 71 = .ok (.aload_n 0, 1) := by decide +kernel
theorem dX11_judge_72 : decode cX11_judge 72 = .ok (.getfield 16, 3) := by decide +kernel
theorem dX11_judge_75 : decode cX11_judge 75 = .ok (.invokevirtual 195, 3) := by decide +kernel
theorem dX11_judge_78 : decode cX11_judge 78 = .ok (.iinc 3 1, 3) := by decide +kernel
theorem dX11_judge_81 : decode cX11_judge 81 = .ok (.goto (-43), 3) := by decide +kernel
theorem dX11_judge_84 : decode cX11_judge 84 = .ok (.bipush (-4), 2) := by decide +kernel
theorem dX11_judge_86 : decode cX11_judge 86 = .ok (.ireturn, 1) := by decide +kernel
theorem dX11_seasons_0 : decode cX11_seasons 0 = .ok (.iload_n 1, 1) := by decide +kernel
theorem dX11_seasons_1 : decode cX11_seasons 1 = .ok (.iconst 1, 1) := by decide +kernel
theorem dX11_seasons_2 : decode cX11_seasons 2 = .ok (.if_icmp .lt 18, 3) := by decide +kernel
theorem dX11_seasons_5 : decode cX11_seasons 5 = .ok (.iload_n 1, 1) := by decide +kernel
theorem dX11_seasons_6 : decode cX11_seasons 6 = .ok (.bipush 20, 2) := by decide +kernel
theorem dX11_seasons_8 : decode cX11_seasons 8 = .ok (.if_icmp .gt 12, 3) := by decide +kernel
theorem dX11_seasons_11 : decode cX11_seasons 11 = .ok (.iload_n 3, 1) := by decide +kernel
theorem dX11_seasons_12 : decode cX11_seasons 12 = .ok (.ifCond .lt 8, 3) := by decide +kernel
theorem dX11_seasons_15 : decode cX11_seasons 15 = .ok (.iload_n 3, 1) := by decide +kernel
theorem dX11_seasons_16 : decode cX11_seasons 16 = .ok (.iconst 1, 1) := by decide +kernel
theorem dX11_seasons_17 : decode cX11_seasons 17 = .ok (.if_icmp .le 5, 3) := by decide +kernel
theorem dX11_seasons_20 : decode cX11_seasons 20 = .ok (.iconst (-1), 1) := by decide +kernel
theorem dX11_seasons_21 : decode cX11_seasons 21 = .ok (.ireturn, 1) := by decide +kernel
theorem dX11_seasons_22 : decode cX11_seasons 22 = .ok (.iload_n 2, 1) := by decide +kernel
theorem dX11_seasons_23 : decode cX11_seasons 23 = .ok (.istore 4, 2) := by decide +kernel
theorem dX11_seasons_25 : decode cX11_seasons 25 = .ok (.iconst 0, 1) := by decide +kernel
theorem dX11_seasons_26 : decode cX11_seasons 26 = .ok (.istore 5, 2) := by decide +kernel
theorem dX11_seasons_28 : decode cX11_seasons 28 = .ok (.iconst 0, 1) := by decide +kernel
theorem dX11_seasons_29 : decode cX11_seasons 29 = .ok (.istore 6, 2) := by decide +kernel
theorem dX11_seasons_31 : decode cX11_seasons 31 = .ok (.iconst 0, 1) := by decide +kernel
theorem dX11_seasons_32 : decode cX11_seasons 32 = .ok (.istore 7, 2) := by decide +kernel
theorem dX11_seasons_34 : decode cX11_seasons 34 = .ok (.iload 7, 2) := by decide +kernel
theorem dX11_seasons_36 : decode cX11_seasons 36 = .ok (.iload_n 1, 1) := by decide +kernel
theorem dX11_seasons_37 : decode cX11_seasons 37 = .ok (.if_icmp .ge 121, 3) := by decide +kernel
theorem dX11_seasons_40 : decode cX11_seasons 40 = .ok (.aload_n 0, 1) := by decide +kernel
theorem dX11_seasons_41 : decode cX11_seasons 41 = .ok (.getfield 16, 3) := by decide +kernel
theorem dX11_seasons_44 : decode cX11_seasons 44 = .ok (.aload_n 0, 1) := by decide +kernel
theorem dX11_seasons_45 : decode cX11_seasons 45 = .ok (.getfield 10, 3) := by decide +kernel
theorem dX11_seasons_48 : decode cX11_seasons 48 = .ok (.invokevirtual 70, 3) := by decide +kernel
theorem dX11_seasons_51 : decode cX11_seasons 51 = .ok (.iconst 0, 1) := by decide +kernel
theorem dX11_seasons_52 : decode cX11_seasons 52 = .ok (.istore 8, 2) := by decide +kernel
theorem dX11_seasons_54 : decode cX11_seasons 54 = .ok (.iload 8, 2) := by decide +kernel
theorem dX11_seasons_56 : decode cX11_seasons 56 = .ok (.aload_n 0, 1) := by decide +kernel
theorem dX11_seasons_57 : decode cX11_seasons 57 = .ok (.getfield 10, 3) := by decide +kernel
theorem dX11_seasons_60 : decode cX11_seasons 60 = .ok (.getfield 134, 3) := by decide +kernel
theorem dX11_seasons_63 : decode cX11_seasons 63 = .ok (.if_icmp .ge 45, 3) := by decide +kernel
theorem dX11_seasons_66 : decode cX11_seasons 66 = .ok (.aload_n 0, 1) := by decide +kernel
theorem dX11_seasons_67 : decode cX11_seasons 67 = .ok (.getfield 10, 3) := by decide +kernel
theorem dX11_seasons_70 : decode cX11_seasons 70 = .ok (.iload 8, 2) := by decide +kernel
theorem dX11_seasons_72 : decode cX11_seasons 72 = .ok (.invokevirtual 107, 3) := by decide +kernel
theorem dX11_seasons_75 : decode cX11_seasons 75 = .ok (.ifCond .eq 27, 3) := by decide +kernel
theorem dX11_seasons_78 : decode cX11_seasons 78 = .ok (.iload 4, 2) := by decide +kernel
theorem dX11_seasons_80 : decode cX11_seasons 80 = .ok (.invokestatic 309, 3) := by decide +kernel
theorem dX11_seasons_83 : decode cX11_seasons 83 = .ok (.istore 4, 2) := by decide +kernel
theorem dX11_seasons_85 : decode cX11_seasons 85 = .ok (.aload_n 0, 1) := by decide +kernel
theorem dX11_seasons_86 : decode cX11_seasons 86 = .ok (.getfield 16, 3) := by decide +kernel
theorem dX11_seasons_89 : decode cX11_seasons 89 = .ok (.getfield 95, 3) := by decide +kernel
theorem dX11_seasons_92 : decode cX11_seasons 92 = .ok (.iload 8, 2) := by decide +kernel
theorem dX11_seasons_94 : decode cX11_seasons 94 = .ok (.bipush 100, 2) := by decide +kernel
theorem dX11_seasons_96 : decode cX11_seasons 96 = .ok (.iload 4, 2) := by decide +kernel
theorem dX11_seasons_98 : decode cX11_seasons 98 = .ok (.invokestatic 312, 3) := by decide +kernel
theorem dX11_seasons_101 : decode cX11_seasons 101 = .ok (.iastore, 1) := by decide +kernel
theorem dX11_seasons_102 : decode cX11_seasons 102 = .ok (.iinc 8 1, 3) := by decide +kernel
theorem dX11_seasons_105 : decode cX11_seasons 105 = .ok (.goto (-51), 3) := by decide +kernel
theorem dX11_seasons_108 : decode cX11_seasons 108 = .ok (.aload_n 0, 1) := by decide +kernel
theorem dX11_seasons_109 : decode cX11_seasons 109 = .ok (.getfield 16, 3) := by decide +kernel
theorem dX11_seasons_112 : decode cX11_seasons 112 = .ok (.bipush 9, 2) := by decide +kernel
theorem dX11_seasons_114 : decode cX11_seasons 114 = .ok (.invokevirtual 168, 3) := by decide +kernel
theorem dX11_seasons_117 : decode cX11_seasons 117 = .ok (.iload 5, 2) := by decide +kernel
theorem dX11_seasons_119 : decode cX11_seasons 119 = .ok (.aload_n 0, 1) := by decide +kernel
theorem dX11_seasons_120 : decode cX11_seasons 120 = .ok (.getfield 16, 3) := by decide +kernel
theorem dX11_seasons_123 : decode cX11_seasons 123 = .ok (.getfield 171, 3) := by decide +kernel
theorem dX11_seasons_126 : decode cX11_seasons 126 = .ok (.aload_n 0, 1) := by decide +kernel
theorem dX11_seasons_127 : decode cX11_seasons 127 = .ok (.getfield 10, 3) := by decide +kernel
theorem dX11_seasons_130 : decode cX11_seasons 130 = .ok (.getfield 171, 3) := by decide +kernel
theorem dX11_seasons_133 : decode cX11_seasons 133 = .ok (.isub, 1) := by decide +kernel
theorem dX11_seasons_134 : decode cX11_seasons 134 = .ok (.iadd, 1) := by decide +kernel
theorem dX11_seasons_135 : decode cX11_seasons 135 = .ok (.istore 5, 2) := by decide +kernel
theorem dX11_seasons_137 : decode cX11_seasons 137 = .ok (.iload 6, 2) := by decide +kernel
theorem dX11_seasons_139 : decode cX11_seasons 139 = .ok (.aload_n 0, 1) := by decide +kernel
theorem dX11_seasons_140 : decode cX11_seasons 140 = .ok (.getfield 16, 3) := by decide +kernel
theorem dX11_seasons_143 : decode cX11_seasons 143 = .ok (.getfield 177, 3) := by decide +kernel
theorem dX11_seasons_146 : decode cX11_seasons 146 = .ok (.invokestatic 269, 3) := by decide +kernel
theorem dX11_seasons_149 : decode cX11_seasons 149 = .ok (.iadd, 1) := by decide +kernel
theorem dX11_seasons_150 : decode cX11_seasons 150 = .ok (.istore 6, 2) := by decide +kernel
theorem dX11_seasons_152 : decode cX11_seasons 152 = .ok (.iinc 7 1, 3) := by decide +kernel
theorem dX11_seasons_155 : decode cX11_seasons 155 = .ok (.goto (-121), 3) := by decide +kernel
theorem dX11_seasons_158 : decode cX11_seasons 158 = .ok (.iload_n 3, 1) := by decide +kernel
theorem dX11_seasons_159 : decode cX11_seasons 159 = .ok (.ifCond .ne 8, 3) := by decide +kernel
theorem dX11_seasons_162 : decode cX11_seasons 162 = .ok (.iload 5, 2) := by decide +kernel
theorem dX11_seasons_164 : decode cX11_seasons 164 = .ok (.goto 5, 3) := by decide +kernel
theorem dX11_seasons_167 : decode cX11_seasons 167 = .ok (.iload 6, 2) := by decide +kernel
theorem dX11_seasons_169 : decode cX11_seasons 169 = .ok (.ireturn, 1) := by decide +kernel
theorem dX11_nextSeed_0 : decode cX11_nextSeed 0 = .ok (.iload_n 0, 1) := by decide +kernel
theorem dX11_nextSeed_1 : decode cX11_nextSeed 1 = .ok (.ldc_w 315, 3) := by decide +kernel
theorem dX11_nextSeed_4 : decode cX11_nextSeed 4 = .ok (.imul, 1) := by decide +kernel
theorem dX11_nextSeed_5 : decode cX11_nextSeed 5 = .ok (.sipush 12345, 3) := by decide +kernel
theorem dX11_nextSeed_8 : decode cX11_nextSeed 8 = .ok (.iadd, 1) := by decide +kernel
theorem dX11_nextSeed_9 : decode cX11_nextSeed 9 = .ok (.ireturn, 1) := by decide +kernel
theorem dX11_drawBelow_0 : decode cX11_drawBelow 0 = .ok (.iload_n 1, 1) := by decide +kernel
theorem dX11_drawBelow_1 : decode cX11_drawBelow 1 = .ok (.ldc_w 316, 3) := by decide +kernel
theorem dX11_drawBelow_4 : decode cX11_drawBelow 4 = .ok (.iand, 1) := by decide +kernel
theorem dX11_drawBelow_5 : decode cX11_drawBelow 5 = .ok (.ldc_w 317, 3) := by decide +kernel
theorem dX11_drawBelow_8 : decode cX11_drawBelow 8 = .ok (.idiv, 1) := by decide +kernel
theorem dX11_drawBelow_9 : decode cX11_drawBelow 9 = .ok (.istore_n 2, 1) := by decide +kernel
theorem dX11_drawBelow_10 : decode cX11_drawBelow 10 = .ok (.iload_n 0, 1) := by decide +kernel
theorem dX11_drawBelow_11 : decode cX11_drawBelow 11 = .ok (.ifCond .le 9, 3) := by decide +kernel
theorem dX11_drawBelow_14 : decode cX11_drawBelow 14 = .ok (.iload_n 2, 1) := by decide +kernel
theorem dX11_drawBelow_15 : decode cX11_drawBelow 15 = .ok (.iload_n 0, 1) := by decide +kernel
theorem dX11_drawBelow_16 : decode cX11_drawBelow 16 = .ok (.irem, 1) := by decide +kernel
theorem dX11_drawBelow_17 : decode cX11_drawBelow 17 = .ok (.goto 4, 3) := by decide +kernel
theorem dX11_drawBelow_20 : decode cX11_drawBelow 20 = .ok (.iconst 0, 1) := by decide +kernel
theorem dX11_drawBelow_21 : decode cX11_drawBelow 21 = .ok (.ireturn, 1) := by decide +kernel
theorem dX11_image_0 : decode cX11_image 0 = .ok (.aload_n 0, 1) := by decide +kernel
theorem dX11_image_1 : decode cX11_image 1 = .ok (.getfield 19, 3) := by decide +kernel
theorem dX11_image_4 : decode cX11_image 4 = .ok (.aload_n 0, 1) := by decide +kernel
theorem dX11_image_5 : decode cX11_image 5 = .ok (.getfield 10, 3) := by decide +kernel
theorem dX11_image_8 : decode cX11_image 8 = .ok (.invokevirtual 70, 3) := by decide +kernel
theorem dX11_image_11 : decode cX11_image 11 = .ok (.aload_n 0, 1) := by decide +kernel
theorem dX11_image_12 : decode cX11_image 12 = .ok (.iconst 1, 1) := by decide +kernel
theorem dX11_image_13 : decode cX11_image 13 = .ok (.putfield 22, 3) := by decide +kernel
theorem dX11_image_16 : decode cX11_image 16 = .ok (.aload_n 0, 1) := by decide +kernel
theorem dX11_image_17 : decode cX11_image 17 = .ok (.getfield 10, 3) := by decide +kernel
theorem dX11_image_20 : decode cX11_image 20 = .ok (.getfield 165, 3) := by decide +kernel
theorem dX11_image_23 : decode cX11_image 23 = .ok (.ireturn, 1) := by decide +kernel
theorem dX11_restore_0 : decode cX11_restore 0 = .ok (.aload_n 0, 1) := by decide +kernel
theorem dX11_restore_1 : decode cX11_restore 1 = .ok (.getfield 22, 3) := by decide +kernel
theorem dX11_restore_4 : decode cX11_restore 4 = .ok (.ifCond .ne 6, 3) := by decide +kernel
theorem dX11_restore_7 : decode cX11_restore 7 = .ok (.bipush (-3), 2) := by decide +kernel
theorem dX11_restore_9 : decode cX11_restore 9 = .ok (.ireturn, 1) := by decide +kernel
theorem dX11_restore_10 : decode cX11_restore 10 = .ok (.aload_n 0, 1) := by decide +kernel
theorem dX11_restore_11 : decode cX11_restore 11 = .ok (.getfield 10, 3) := by decide +kernel
theorem dX11_restore_14 : decode cX11_restore 14 = .ok (.aload_n 0, 1) := by decide +kernel
theorem dX11_restore_15 : decode cX11_restore 15 = .ok (.getfield 19, 3) := by decide +kernel
theorem dX11_restore_18 : decode cX11_restore 18 = .ok (.invokevirtual 70, 3) := by decide +kernel
theorem dX11_restore_21 : decode cX11_restore 21 = .ok (.aload_n 0, 1) := by decide +kernel
theorem dX11_restore_22 : decode cX11_restore 22 = .ok (.getfield 10, 3) := by decide +kernel
theorem dX11_restore_25 : decode cX11_restore 25 = .ok (.getfield 165, 3) := by decide +kernel
theorem dX11_restore_28 : decode cX11_restore 28 = .ok (.ireturn, 1) := by decide +kernel
theorem dX11_count_0 : decode cX11_count 0 = .ok (.iload_n 1, 1) := by decide +kernel
theorem dX11_count_1 : decode cX11_count 1 = .ok (.tableswitch 99 0 6 #[43, 51, 59, 67, 75, 83, 91], 43) := by decide +kernel
theorem dX11_count_44 : decode cX11_count 44 = .ok (.aload_n 0, 1) := by decide +kernel
theorem dX11_count_45 : decode cX11_count 45 = .ok (.getfield 10, 3) := by decide +kernel
theorem dX11_count_48 : decode cX11_count 48 = .ok (.getfield 134, 3) := by decide +kernel
theorem dX11_count_51 : decode cX11_count 51 = .ok (.ireturn, 1) := by decide +kernel
theorem dX11_count_52 : decode cX11_count 52 = .ok (.aload_n 0, 1) := by decide +kernel
theorem dX11_count_53 : decode cX11_count 53 = .ok (.getfield 10, 3) := by decide +kernel
theorem dX11_count_56 : decode cX11_count 56 = .ok (.getfield 165, 3) := by decide +kernel
theorem dX11_count_59 : decode cX11_count 59 = .ok (.ireturn, 1) := by decide +kernel
theorem dX11_count_60 : decode cX11_count 60 = .ok (.aload_n 0, 1) := by decide +kernel
theorem dX11_count_61 : decode cX11_count 61 = .ok (.getfield 10, 3) := by decide +kernel
theorem dX11_count_64 : decode cX11_count 64 = .ok (.getfield 171, 3) := by decide +kernel
theorem dX11_count_67 : decode cX11_count 67 = .ok (.ireturn, 1) := by decide +kernel
theorem dX11_count_68 : decode cX11_count 68 = .ok (.aload_n 0, 1) := by decide +kernel
theorem dX11_count_69 : decode cX11_count 69 = .ok (.getfield 10, 3) := by decide +kernel
theorem dX11_count_72 : decode cX11_count 72 = .ok (.getfield 159, 3) := by decide +kernel
theorem dX11_count_75 : decode cX11_count 75 = .ok (.ireturn, 1) := by decide +kernel
theorem dX11_count_76 : decode cX11_count 76 = .ok (.aload_n 0, 1) := by decide +kernel
theorem dX11_count_77 : decode cX11_count 77 = .ok (.getfield 10, 3) := by decide +kernel
theorem dX11_count_80 : decode cX11_count 80 = .ok (.getfield 162, 3) := by decide +kernel
theorem dX11_count_83 : decode cX11_count 83 = .ok (.ireturn, 1) := by decide +kernel
theorem dX11_count_84 : decode cX11_count 84 = .ok (.aload_n 0, 1) := by decide +kernel
theorem dX11_count_85 : decode cX11_count 85 = .ok (.getfield 10, 3) := by decide +kernel
theorem dX11_count_88 : decode cX11_count 88 = .ok (.getfield 177, 3) := by decide +kernel
theorem dX11_count_91 : decode cX11_count 91 = .ok (.ireturn, 1) := by decide +kernel
theorem dX11_count_92 : decode cX11_count 92 = .ok (.aload_n 0, 1) := by decide +kernel
theorem dX11_count_93 : decode cX11_count 93 = .ok (.getfield 10, 3) := by decide +kernel
theorem dX11_count_96 : decode cX11_count 96 = .ok (.invokevirtual 180, 3) := by decide +kernel
theorem dX11_count_99 : decode cX11_count 99 = .ok (.ireturn, 1) := by decide +kernel
theorem dX11_count_100 : decode cX11_count 100 = .ok (.iconst (-1), 1) := by decide +kernel
theorem dX11_count_101 : decode cX11_count 101 = .ok (.ireturn, 1) := by decide +kernel
theorem dX11_keep_0 : decode cX11_keep 0 = .ok (.iload_n 1, 1) := by decide +kernel
theorem dX11_keep_1 : decode cX11_keep 1 = .ok (.invokestatic 45, 3) := by decide +kernel
theorem dX11_keep_4 : decode cX11_keep 4 = .ok (.ifCond .eq 12, 3) := by decide +kernel
theorem dX11_keep_7 : decode cX11_keep 7 = .ok (.iload_n 2, 1) := by decide +kernel
theorem dX11_keep_8 : decode cX11_keep 8 = .ok (.ifCond .lt 8, 3) := by decide +kernel
theorem dX11_keep_11 : decode cX11_keep 11 = .ok (.iload_n 2, 1) := by decide +kernel
theorem dX11_keep_12 : decode cX11_keep 12 = .ok (.iconst 1, 1) := by decide +kernel
theorem dX11_keep_13 : decode cX11_keep 13 = .ok (.if_icmp .le 5, 3) := by decide +kernel
theorem dX11_keep_16 : decode cX11_keep 16 = .ok (.iconst (-1), 1) := by decide +kernel
theorem dX11_keep_17 : decode cX11_keep 17 = .ok (.ireturn, 1) := by decide +kernel
theorem dX11_keep_18 : decode cX11_keep 18 = .ok (.iload_n 2, 1) := by decide +kernel
theorem dX11_keep_19 : decode cX11_keep 19 = .ok (.iconst 1, 1) := by decide +kernel
theorem dX11_keep_20 : decode cX11_keep 20 = .ok (.if_icmp .ne 23, 3) := by decide +kernel
theorem dX11_keep_23 : decode cX11_keep 23 = .ok (.iload_n 3, 1) := by decide +kernel
theorem dX11_keep_24 : decode cX11_keep 24 = .ok (.ifCond .lt 17, 3) := by decide +kernel
theorem dX11_keep_27 : decode cX11_keep 27 = .ok (.iload_n 3, 1) := by decide +kernel
theorem dX11_keep_28 : decode cX11_keep 28 = .ok (.bipush 8, 2) := by decide +kernel
theorem dX11_keep_30 : decode cX11_keep 30 = .ok (.if_icmp .ge 11, 3) := by decide +kernel
theorem dX11_keep_33 : decode cX11_keep 33 = .ok (.iload 4, 2) := by decide +kernel
theorem dX11_keep_35 : decode cX11_keep 35 = .ok (.invokestatic 156, 3) := by decide +kernel
theorem dX11_keep_38 : decode cX11_keep 38 = .ok (.ifCond .ne 5, 3) := by decide +kernel
theorem dX11_keep_41 : decode cX11_keep 41 = .ok (.iconst (-1), 1) := by decide +kernel
theorem dX11_keep_42 : decode cX11_keep 42 = .ok (.ireturn, 1) := by decide +kernel
theorem dX11_keep_43 : decode cX11_keep 43 = .ok (.aload_n 0, 1) := by decide +kernel
theorem dX11_keep_44 : decode cX11_keep 44 = .ok (.getfield 28, 3) := by decide +kernel
theorem dX11_keep_47 : decode cX11_keep 47 = .ok (.iload_n 1, 1) := by decide +kernel
theorem dX11_keep_48 : decode cX11_keep 48 = .ok (.iload_n 2, 1) := by decide +kernel
theorem dX11_keep_49 : decode cX11_keep 49 = .ok (.iconst 1, 1) := by decide +kernel
theorem dX11_keep_50 : decode cX11_keep 50 = .ok (.if_icmp .ne 12, 3) := by decide +kernel
theorem dX11_keep_53 : decode cX11_keep 53 = .ok (.iload_n 3, 1) := by decide +kernel
theorem dX11_keep_54 : decode cX11_keep 54 = .ok (.iload 4, 2) := by decide +kernel
theorem dX11_keep_56 : decode cX11_keep 56 = .ok (.invokestatic 282, 3) := by decide +kernel
theorem dX11_keep_59 : decode cX11_keep 59 = .ok (.goto 4, 3) := by decide +kernel
theorem dX11_keep_62 : decode cX11_keep 62 = .ok (.aconst_null, 1) := by decide +kernel
theorem dX11_keep_63 : decode cX11_keep 63 = .ok (.aastore, 1) := by decide +kernel
theorem dX11_keep_64 : decode cX11_keep 64 = .ok (.aload_n 0, 1) := by decide +kernel
theorem dX11_keep_65 : decode cX11_keep 65 = .ok (.getfield 34, 3) := by decide +kernel
theorem dX11_keep_68 : decode cX11_keep 68 = .ok (.iload_n 1, 1) := by decide +kernel
theorem dX11_keep_69 : decode cX11_keep 69 = .ok (.aconst_null, 1) := by decide +kernel
theorem dX11_keep_70 : decode cX11_keep 70 = .ok (.aastore, 1) := by decide +kernel
theorem dX11_keep_71 : decode cX11_keep 71 = .ok (.iconst 0, 1) := by decide +kernel
theorem dX11_keep_72 : decode cX11_keep 72 = .ok (.ireturn, 1) := by decide +kernel
theorem dX11_row_0 : decode cX11_row 0 = .ok (.iload_n 1, 1) := by decide +kernel
theorem dX11_row_1 : decode cX11_row 1 = .ok (.invokestatic 45, 3) := by decide +kernel
theorem dX11_row_4 : decode cX11_row 4 = .ok (.ifCond .eq 18, 3) := by decide +kernel
theorem dX11_row_7 : decode cX11_row 7 = .ok (.iload_n 2, 1) := by decide +kernel
theorem dX11_row_8 : decode cX11_row 8 = .ok (.ifCond .lt 14, 3) := by decide +kernel
theorem dX11_row_11 : decode cX11_row 11 = .ok (.iload_n 2, 1) := by decide +kernel
theorem dX11_row_12 : decode cX11_row 12 = .ok (.iconst 2, 1) := by decide +kernel
theorem dX11_row_13 : decode cX11_row 13 = .ok (.if_icmp .gt 9, 3) := by decide +kernel
theorem dX11_row_16 : decode cX11_row 16 = .ok (.iload_n 3, 1) := by decide +kernel
theorem dX11_row_17 : decode cX11_row 17 = .ok (.bipush 100, 2) := by decide +kernel
theorem dX11_row_19 : decode cX11_row 19 = .ok (.if_icmp .le 5, 3) := by decide +kernel
theorem dX11_row_22 : decode cX11_row 22 = .ok (.iconst (-1), 1) := by decide +kernel
theorem dX11_row_23 : decode cX11_row 23 = .ok (.ireturn, 1) := by decide +kernel
theorem dX11_row_24 : decode cX11_row 24 = .ok (.iload_n 3, 1) := by decide +kernel
theorem dX11_row_25 : decode cX11_row 25 = .ok (.ifCond .ge 6, 3) := by decide +kernel
theorem dX11_row_28 : decode cX11_row 28 = .ok (.bipush (-14), 2) := by decide +kernel
theorem dX11_row_30 : decode cX11_row 30 = .ok (.ireturn, 1) := by decide +kernel
theorem dX11_row_31 : decode cX11_row 31 = .ok (.aload_n 0, 1) := by decide +kernel
theorem dX11_row_32 : decode cX11_row 32 = .ok (.getfield 28, 3) := by decide +kernel
theorem dX11_row_35 : decode cX11_row 35 = .ok (.iload_n 1, 1) := by decide +kernel
theorem dX11_row_36 : decode cX11_row 36 = .ok (.aconst_null, 1) := by decide +kernel
theorem dX11_row_37 : decode cX11_row 37 = .ok (.aastore, 1) := by decide +kernel
theorem dX11_row_38 : decode cX11_row 38 = .ok (.aload_n 0, 1) := by decide +kernel
theorem dX11_row_39 : decode cX11_row 39 = .ok (.getfield 34, 3) := by decide +kernel
theorem dX11_row_42 : decode cX11_row 42 = .ok (.iload_n 1, 1) := by decide +kernel
theorem dX11_row_43 : decode cX11_row 43 = .ok (.new 32, 3) := by decide +kernel
theorem dX11_row_46 : decode cX11_row 46 = .ok (.dup, 1) := by decide +kernel
theorem dX11_row_47 : decode cX11_row 47 = .ok (.iload_n 2, 1) := by decide +kernel
theorem dX11_row_48 : decode cX11_row 48 = .ok (.iload_n 3, 1) := by decide +kernel
theorem dX11_row_49 : decode cX11_row 49 = .ok (.invokespecial 318, 3) := by decide +kernel
theorem dX11_row_52 : decode cX11_row 52 = .ok (.aastore, 1) := by decide +kernel
theorem dX11_row_53 : decode cX11_row 53 = .ok (.iconst 0, 1) := by decide +kernel
theorem dX11_row_54 : decode cX11_row 54 = .ok (.ireturn, 1) := by decide +kernel
theorem dX11_put_0 : decode cX11_put 0 = .ok (.aload_n 0, 1) := by decide +kernel
theorem dX11_put_1 : decode cX11_put 1 = .ok (.iload_n 1, 1) := by decide +kernel
theorem dX11_put_2 : decode cX11_put 2 = .ok (.invokevirtual 49, 3) := by decide +kernel
theorem dX11_put_5 : decode cX11_put 5 = .ok (.astore 4, 2) := by decide +kernel
theorem dX11_put_7 : decode cX11_put 7 = .ok (.aload 4, 2) := by decide +kernel
theorem dX11_put_9 : decode cX11_put 9 = .ok (.ifnonnull 9, 3) := by decide +kernel
theorem dX11_put_12 : decode cX11_put 12 = .ok (.aload_n 0, 1) := by decide +kernel
theorem dX11_put_13 : decode cX11_put 13 = .ok (.iload_n 1, 1) := by decide +kernel
theorem dX11_put_14 : decode cX11_put 14 = .ok (.invokevirtual 53, 3) := by decide +kernel
theorem dX11_put_17 : decode cX11_put 17 = .ok (.ireturn, 1) := by decide +kernel
theorem dX11_put_18 : decode cX11_put 18 = .ok (.aload 4, 2) := by decide +kernel
theorem dX11_put_20 : decode cX11_put 20 = .ok (.iload_n 2, 1) := by decide +kernel
theorem dX11_put_21 : decode cX11_put 21 = .ok (.invokevirtual 320, 3) := by decide +kernel
theorem dX11_put_24 : decode cX11_put 24 = .ok (.ifCond .ne 6, 3) := by decide +kernel
theorem dX11_put_27 : decode cX11_put 27 = .ok (.bipush (-13), 2) := by decide +kernel
theorem dX11_put_29 : decode cX11_put 29 = .ok (.ireturn, 1) := by decide +kernel
theorem dX11_put_30 : decode cX11_put 30 = .ok (.aload 4, 2) := by decide +kernel
theorem dX11_put_32 : decode cX11_put 32 = .ok (.iload_n 2, 1) := by decide +kernel
theorem dX11_put_33 : decode cX11_put 33 = .ok (.iload_n 3, 1) := by decide +kernel
theorem dX11_put_34 : decode cX11_put 34 = .ok (.invokevirtual 323, 3) := by decide +kernel
theorem dX11_put_37 : decode cX11_put 37 = .ok (.iconst 0, 1) := by decide +kernel
theorem dX11_put_38 : decode cX11_put 38 = .ok (.ireturn, 1) := by decide +kernel
theorem dX11_element_0 : decode cX11_element 0 = .ok (.iload_n 1, 1) := by decide +kernel
theorem dX11_element_1 : decode cX11_element 1 = .ok (.invokestatic 45, 3) := by decide +kernel
theorem dX11_element_4 : decode cX11_element 4 = .ok (.ifCond .ne 14, 3) := by decide +kernel
theorem dX11_element_7 : decode cX11_element 7 = .ok (.new 326, 3) := by decide +kernel
theorem dX11_element_10 : decode cX11_element 10 = .ok (.dup, 1) := by decide +kernel
theorem dX11_element_11 : decode cX11_element 11 = .ok (.ldc_w 328, 3) := by decide +kernel
theorem dX11_element_14 : decode cX11_element 14 = .ok (.invokespecial 330, 3) := by decide +kernel
theorem dX11_element_17 : decode cX11_element 17 = .ok (.athrow, 1) := by decide +kernel
theorem dX11_element_18 : decode cX11_element 18 = .ok (.aload_n 0, 1) := by decide +kernel
theorem dX11_element_19 : decode cX11_element 19 = .ok (.iload_n 1, 1) := by decide +kernel
theorem dX11_element_20 : decode cX11_element 20 = .ok (.invokevirtual 49, 3) := by decide +kernel
theorem dX11_element_23 : decode cX11_element 23 = .ok (.astore_n 3, 1) := by decide +kernel
theorem dX11_element_24 : decode cX11_element 24 = .ok (.aload_n 3, 1) := by decide +kernel
theorem dX11_element_25 : decode cX11_element 25 = .ok (.ifnonnull 14, 3) := by decide +kernel
theorem dX11_element_28 : decode cX11_element 28 = .ok (.new 333, 3) := by decide +kernel
theorem dX11_element_31 : decode cX11_element 31 = .ok (.dup, 1) := by decide +kernel
theorem dX11_element_32 : decode cX11_element 32 = .ok (.ldc_w 335, 3) := by decide +kernel
theorem dX11_element_35 : decode cX11_element 35 = .ok (.invokespecial 337, 3) := by decide +kernel
theorem dX11_element_38 : decode cX11_element 38 = .ok (.athrow, 1) := by decide +kernel
theorem dX11_element_39 : decode cX11_element 39 = .ok (.aload_n 3, 1) := by decide +kernel
theorem dX11_element_40 : decode cX11_element 40 = .ok (.iload_n 2, 1) := by decide +kernel
theorem dX11_element_41 : decode cX11_element 41 = .ok (.invokevirtual 320, 3) := by decide +kernel
theorem dX11_element_44 : decode cX11_element 44 = .ok (.ifCond .ne 14, 3) := by decide +kernel
theorem dX11_element_47 : decode cX11_element 47 = .ok (.new 333, 3) := by decide +kernel
theorem dX11_element_50 : decode cX11_element 50 = .ok (.dup, 1) := by decide +kernel
theorem dX11_element_51 : decode cX11_element 51 = .ok (.ldc_w 338, 3) := by decide +kernel
theorem dX11_element_54 : decode cX11_element 54 = .ok (.invokespecial 337, 3) := by decide +kernel
theorem dX11_element_57 : decode cX11_element 57 = .ok (.athrow, 1) := by decide +kernel
theorem dX11_element_58 : decode cX11_element 58 = .ok (.aload_n 3, 1) := by decide +kernel
theorem dX11_element_59 : decode cX11_element 59 = .ok (.iload_n 2, 1) := by decide +kernel
theorem dX11_element_60 : decode cX11_element 60 = .ok (.invokevirtual 293, 3) := by decide +kernel
theorem dX11_element_63 : decode cX11_element 63 = .ok (.i2l, 1) := by decide +kernel
theorem dX11_element_64 : decode cX11_element 64 = .ok (.lreturn, 1) := by decide +kernel
theorem dX11_copy_0 : decode cX11_copy 0 = .ok (.iload_n 1, 1) := by decide +kernel
theorem dX11_copy_1 : decode cX11_copy 1 = .ok (.invokestatic 45, 3) := by decide +kernel
theorem dX11_copy_4 : decode cX11_copy 4 = .ok (.ifCond .eq 10, 3) := by decide +kernel
theorem dX11_copy_7 : decode cX11_copy 7 = .ok (.iload_n 3, 1) := by decide +kernel
theorem dX11_copy_8 : decode cX11_copy 8 = .ok (.invokestatic 45, 3) := by decide +kernel
theorem dX11_copy_11 : decode cX11_copy 11 = .ok (.ifCond .ne 5, 3) := by decide +kernel
theorem dX11_copy_14 : decode cX11_copy 14 = .ok (.iconst (-1), 1) := by decide +kernel
theorem dX11_copy_15 : decode cX11_copy 15 = .ok (.ireturn, 1) := by decide +kernel
theorem dX11_copy_16 : decode cX11_copy 16 = .ok (.aload_n 0, 1) := by decide +kernel
theorem dX11_copy_17 : decode cX11_copy 17 = .ok (.iload_n 1, 1) := by decide +kernel
theorem dX11_copy_18 : decode cX11_copy 18 = .ok (.invokevirtual 340, 3) := by decide +kernel
theorem dX11_copy_21 : decode cX11_copy 21 = .ok (.ifCond .ne 11, 3) := by decide +kernel
theorem dX11_copy_24 : decode cX11_copy 24 = .ok (.aload_n 0, 1) := by decide +kernel
theorem dX11_copy_25 : decode cX11_copy 25 = .ok (.iload_n 3, 1) := by decide +kernel
theorem dX11_copy_26 : decode cX11_copy 26 = .ok (.invokevirtual 340, 3) := by decide +kernel
theorem dX11_copy_29 : decode cX11_copy 29 = .ok (.ifCond .eq 6, 3) := by decide +kernel
theorem dX11_copy_32 : decode cX11_copy 32 = .ok (.bipush (-11), 2) := by decide +kernel
theorem dX11_copy_34 : decode cX11_copy 34 = .ok (.ireturn, 1) := by decide +kernel
theorem dX11_copy_35 : decode cX11_copy 35 = .ok (.aload_n 0, 1) := by decide +kernel
theorem dX11_copy_36 : decode cX11_copy 36 = .ok (.iload_n 1, 1) := by decide +kernel
theorem dX11_copy_37 : decode cX11_copy 37 = .ok (.invokevirtual 49, 3) := by decide +kernel
theorem dX11_copy_40 : decode cX11_copy 40 = .ok (.astore 6, 2) := by decide +kernel
theorem dX11_copy_42 : decode cX11_copy 42 = .ok (.aload_n 0, 1) := by decide +kernel
theorem dX11_copy_43 : decode cX11_copy 43 = .ok (.iload_n 3, 1) := by decide +kernel
theorem dX11_copy_44 : decode cX11_copy 44 = .ok (.invokevirtual 49, 3) := by decide +kernel
theorem dX11_copy_47 : decode cX11_copy 47 = .ok (.astore 7, 2) := by decide +kernel
theorem dX11_copy_49 : decode cX11_copy 49 = .ok (.aload 6, 2) := by decide +kernel
theorem dX11_copy_51 : decode cX11_copy 51 = .ok (.ifnull 21, 3) := by decide +kernel
theorem dX11_copy_54 : decode cX11_copy 54 = .ok (.aload 7, 2) := by decide +kernel
theorem dX11_copy_56 : decode cX11_copy 56 = .ok (.ifnull 16, 3) := by decide +kernel
theorem dX11_copy_59 : decode cX11_copy 59 = .ok (.aload 6, 2) := by decide +kernel
theorem dX11_copy_61 : decode cX11_copy 61 = .ok (.getfield 57, 3) := by decide +kernel
theorem dX11_copy_64 : decode cX11_copy 64 = .ok (.aload 7, 2) := by decide +kernel
theorem dX11_copy_66 : decode cX11_copy 66 = .ok (.getfield 57, 3) := by decide +kernel
theorem dX11_copy_69 : decode cX11_copy 69 = .ok (.if_icmp .eq 6, 3) := by decide +kernel
theorem dX11_copy_72 : decode cX11_copy 72 = .ok (.bipush (-12), 2) := by decide +kernel
theorem dX11_copy_74 : decode cX11_copy 74 = .ok (.ireturn, 1) := by decide +kernel
theorem dX11_copy_75 : decode cX11_copy 75 = .ok (.aload 6, 2) := by decide +kernel
theorem dX11_copy_77 : decode cX11_copy 77 = .ok (.iload_n 2, 1) := by decide +kernel
theorem dX11_copy_78 : decode cX11_copy 78 = .ok (.iload 5, 2) := by decide +kernel
theorem dX11_copy_80 : decode cX11_copy 80 = .ok (.invokevirtual 343, 3) := by decide +kernel
theorem dX11_copy_83 : decode cX11_copy 83 = .ok (.ifCond .eq 15, 3) := by decide +kernel
theorem dX11_copy_86 : decode cX11_copy 86 = .ok (.aload 7, 2) := by decide +kernel
theorem dX11_copy_88 : decode cX11_copy 88 = .ok (.iload 4, 2) := by decide +kernel
theorem dX11_copy_90 : decode cX11_copy 90 = .ok (.iload 5, 2) := by decide +kernel
theorem dX11_copy_92 : decode cX11_copy 92 = .ok (.invokevirtual 343, 3) := by decide +kernel
theorem dX11_copy_95 : decode cX11_copy 95 = .ok (.ifCond .ne 6, 3) := by decide +kernel
theorem dX11_copy_98 : decode cX11_copy 98 = .ok (.bipush (-13), 2) := by decide +kernel
theorem dX11_copy_100 : decode cX11_copy 100 = .ok (.ireturn, 1) := by decide +kernel
theorem dX11_copy_101 : decode cX11_copy 101 = .ok (.aload 7, 2) := by decide +kernel
theorem dX11_copy_103 : decode cX11_copy 103 = .ok (.iload 4, 2) := by decide +kernel
theorem dX11_copy_105 : decode cX11_copy 105 = .ok (.aload 6, 2) := by decide +kernel
theorem dX11_copy_107 : decode cX11_copy 107 = .ok (.iload_n 2, 1) := by decide +kernel
theorem dX11_copy_108 : decode cX11_copy 108 = .ok (.iload 5, 2) := by decide +kernel
theorem dX11_copy_110 : decode cX11_copy 110 = .ok (.invokevirtual 346, 3) := by decide +kernel
theorem dX11_copy_113 : decode cX11_copy 113 = .ok (.iload 5, 2) := by decide +kernel
theorem dX11_copy_115 : decode cX11_copy 115 = .ok (.ireturn, 1) := by decide +kernel
theorem dX11_cost_0 : decode cX11_cost 0 = .ok (.aload_n 0, 1) := by decide +kernel
theorem dX11_cost_1 : decode cX11_cost 1 = .ok (.iload_n 1, 1) := by decide +kernel
theorem dX11_cost_2 : decode cX11_cost 2 = .ok (.invokevirtual 119, 3) := by decide +kernel
theorem dX11_cost_5 : decode cX11_cost 5 = .ok (.astore_n 2, 1) := by decide +kernel
theorem dX11_cost_6 : decode cX11_cost 6 = .ok (.aload_n 2, 1) := by decide +kernel
theorem dX11_cost_7 : decode cX11_cost 7 = .ok (.ifnonnull 11, 3) := by decide +kernel
theorem dX11_cost_10 : decode cX11_cost 10 = .ok (.aload_n 0, 1) := by decide +kernel
theorem dX11_cost_11 : decode cX11_cost 11 = .ok (.iload_n 1, 1) := by decide +kernel
theorem dX11_cost_12 : decode cX11_cost 12 = .ok (.invokevirtual 123, 3) := by decide +kernel
theorem dX11_cost_15 : decode cX11_cost 15 = .ok (.goto 7, 3) := by decide +kernel
theorem dX11_cost_18 : decode cX11_cost 18 = .ok (.aload_n 2, 1) := by decide +kernel
theorem dX11_cost_19 : decode cX11_cost 19 = .ok (.invokevirtual 350, 3) := by decide +kernel
theorem dX11_cost_22 : decode cX11_cost 22 = .ok (.ireturn, 1) := by decide +kernel
theorem dX11_toss_0 : decode cX11_toss 0 = .ok (.aload_n 0, 1) := by decide +kernel
theorem dX11_toss_1 : decode cX11_toss 1 = .ok (.iload_n 1, 1) := by decide +kernel
theorem dX11_toss_2 : decode cX11_toss 2 = .ok (.invokevirtual 119, 3) := by decide +kernel
theorem dX11_toss_5 : decode cX11_toss 5 = .ok (.astore_n 2, 1) := by decide +kernel
theorem dX11_toss_6 : decode cX11_toss 6 = .ok (.aload_n 2, 1) := by decide +kernel
theorem dX11_toss_7 : decode cX11_toss 7 = .ok (.ifnonnull 11, 3) := by decide +kernel
theorem dX11_toss_10 : decode cX11_toss 10 = .ok (.aload_n 0, 1) := by decide +kernel
theorem dX11_toss_11 : decode cX11_toss 11 = .ok (.iload_n 1, 1) := by decide +kernel
theorem dX11_toss_12 : decode cX11_toss 12 = .ok (.invokevirtual 123, 3) := by decide +kernel
theorem dX11_toss_15 : decode cX11_toss 15 = .ok (.goto 7, 3) := by decide +kernel
theorem dX11_toss_18 : decode cX11_toss 18 = .ok (.aload_n 2, 1) := by decide +kernel
theorem dX11_toss_19 : decode cX11_toss 19 = .ok (.invokestatic 353, 3) := by decide +kernel
theorem dX11_toss_22 : decode cX11_toss 22 = .ok (.ireturn, 1) := by decide +kernel
theorem dX11_failureOf_0 : decode cX11_failureOf 0 = .ok (.aload_n 0, 1) := by decide +kernel
theorem dX11_failureOf_1 : decode cX11_failureOf 1 = .ok (.invokevirtual 357, 3) := by decide +kernel
theorem dX11_failureOf_4 : decode cX11_failureOf 4 = .ok (.goto 28, 3) := by decide +kernel
theorem dX11_failureOf_7 : decode cX11_failureOf 7 = .ok (.astore_n 1, 1) := by decide +kernel
theorem dX11_failureOf_8 : decode cX11_failureOf 8 = .ok (.sipush 200, 3) := by decide +kernel
theorem dX11_failureOf_11 : decode cX11_failureOf 11 = .ok (.aload_n 0, 1) := by decide +kernel
theorem dX11_failureOf_12 : decode cX11_failureOf 12 = .ok (.invokevirtual 350, 3) := by decide +kernel
theorem dX11_failureOf_15 : decode cX11_failureOf 15 = .ok (.iadd, 1) := by decide +kernel
theorem dX11_failureOf_16 : decode cX11_failureOf 16 = .ok (.ireturn, 1) := by decide +kernel
theorem dX11_failureOf_17 : decode cX11_failureOf 17 = .ok (.astore_n 1, 1) := by decide +kernel
theorem dX11_failureOf_18 : decode cX11_failureOf 18 = .ok (.bipush 100, 2) := by decide +kernel
theorem dX11_failureOf_20 : decode cX11_failureOf 20 = .ok (.aload_n 0, 1) := by decide +kernel
theorem dX11_failureOf_21 : decode cX11_failureOf 21 = .ok (.getfield 92, 3) := by decide +kernel
theorem dX11_failureOf_24 : decode cX11_failureOf 24 = .ok (.iadd, 1) := by decide +kernel
theorem dX11_failureOf_25 : decode cX11_failureOf 25 = .ok (.ireturn, 1) := by decide +kernel
theorem dX11_failureOf_26 : decode cX11_failureOf 26 = .ok (.astore_n 1, 1) := by decide +kernel
theorem dX11_failureOf_27 : decode cX11_failureOf 27 = .ok (.aload_n 0, 1) := by decide +kernel
theorem dX11_failureOf_28 : decode cX11_failureOf 28 = .ok (.getfield 92, 3) := by decide +kernel
theorem dX11_failureOf_31 : decode cX11_failureOf 31 = .ok (.ireturn, 1) := by decide +kernel
theorem dX11_failureOf_32 : decode cX11_failureOf 32 = .ok (.bipush (-15), 2) := by decide +kernel
theorem dX11_failureOf_34 : decode cX11_failureOf 34 = .ok (.ireturn, 1) := by decide +kernel
theorem dX11_isShelf_0 : decode cX11_isShelf 0 = .ok (.iload_n 0, 1) := by decide +kernel
theorem dX11_isShelf_1 : decode cX11_isShelf 1 = .ok (.ifCond .lt 13, 3) := by decide +kernel
theorem dX11_isShelf_4 : decode cX11_isShelf 4 = .ok (.iload_n 0, 1) := by decide +kernel
theorem dX11_isShelf_5 : decode cX11_isShelf 5 = .ok (.bipush 8, 2) := by decide +kernel
theorem dX11_isShelf_7 : decode cX11_isShelf 7 = .ok (.if_icmp .ge 7, 3) := by decide +kernel
theorem dX11_isShelf_10 : decode cX11_isShelf 10 = .ok (.iconst 1, 1) := by decide +kernel
theorem dX11_isShelf_11 : decode cX11_isShelf 11 = .ok (.goto 4, 3) := by decide +kernel
theorem dX11_isShelf_14 : decode cX11_isShelf 14 = .ok (.iconst 0, 1) := by decide +kernel
theorem dX11_isShelf_15 : decode cX11_isShelf 15 = .ok (.ireturn, 1) := by decide +kernel
theorem dX11_holdsNothing_0 : decode cX11_holdsNothing 0 = .ok (.aload_n 0, 1) := by decide +kernel
theorem dX11_holdsNothing_1 : decode cX11_holdsNothing 1 = .ok (.iload_n 1, 1) := by decide +kernel
theorem dX11_holdsNothing_2 : decode cX11_holdsNothing 2 = .ok (.invokevirtual 119, 3) := by decide +kernel
theorem dX11_holdsNothing_5 : decode cX11_holdsNothing 5 = .ok (.ifnonnull 15, 3) := by decide +kernel
theorem dX11_holdsNothing_8 : decode cX11_holdsNothing 8 = .ok (.aload_n 0, 1) := by decide +kernel
theorem dX11_holdsNothing_9 : decode cX11_holdsNothing 9 = .ok (.iload_n 1, 1) := by decide +kernel
theorem dX11_holdsNothing_10 : decode cX11_holdsNothing 10 = .ok (.invokevirtual 49, 3) := by decide +kernel
theorem dX11_holdsNothing_13 : decode cX11_holdsNothing 13 = .ok (.ifnonnull 7, 3) := by decide +kernel
theorem dX11_holdsNothing_16 : decode cX11_holdsNothing 16 = .ok (.iconst 1, 1) := by decide +kernel
theorem dX11_holdsNothing_17 : decode cX11_holdsNothing 17 = .ok (.goto 4, 3) := by decide +kernel
theorem dX11_holdsNothing_20 : decode cX11_holdsNothing 20 = .ok (.iconst 0, 1) := by decide +kernel
theorem dX11_holdsNothing_21 : decode cX11_holdsNothing 21 = .ok (.ireturn, 1) := by decide +kernel
theorem dX11_kindOn_0 : decode cX11_kindOn 0 = .ok (.iload_n 1, 1) := by decide +kernel
theorem dX11_kindOn_1 : decode cX11_kindOn 1 = .ok (.invokestatic 45, 3) := by decide +kernel
theorem dX11_kindOn_4 : decode cX11_kindOn 4 = .ok (.ifCond .eq 12, 3) := by decide +kernel
theorem dX11_kindOn_7 : decode cX11_kindOn 7 = .ok (.aload_n 0, 1) := by decide +kernel
theorem dX11_kindOn_8 : decode cX11_kindOn 8 = .ok (.getfield 28, 3) := by decide +kernel
theorem dX11_kindOn_11 : decode cX11_kindOn 11 = .ok (.iload_n 1, 1) := by decide +kernel
theorem dX11_kindOn_12 : decode cX11_kindOn 12 = .ok (.aaload, 1) := by decide +kernel
theorem dX11_kindOn_13 : decode cX11_kindOn 13 = .ok (.goto 4, 3) := by decide +kernel
theorem dX11_kindOn_16 : decode cX11_kindOn 16 = .ok (.aconst_null, 1) := by decide +kernel
theorem dX11_kindOn_17 : decode cX11_kindOn 17 = .ok (.areturn, 1) := by decide +kernel
theorem dX11_rowOn_0 : decode cX11_rowOn 0 = .ok (.iload_n 1, 1) := by decide +kernel
theorem dX11_rowOn_1 : decode cX11_rowOn 1 = .ok (.invokestatic 45, 3) := by decide +kernel
theorem dX11_rowOn_4 : decode cX11_rowOn 4 = .ok (.ifCond .eq 12, 3) := by decide +kernel
theorem dX11_rowOn_7 : decode cX11_rowOn 7 = .ok (.aload_n 0, 1) := by decide +kernel
theorem dX11_rowOn_8 : decode cX11_rowOn 8 = .ok (.getfield 34, 3) := by decide +kernel
theorem dX11_rowOn_11 : decode cX11_rowOn 11 = .ok (.iload_n 1, 1) := by decide +kernel
theorem dX11_rowOn_12 : decode cX11_rowOn 12 = .ok (.aaload, 1) := by decide +kernel
theorem dX11_rowOn_13 : decode cX11_rowOn 13 = .ok (.goto 4, 3) := by decide +kernel
theorem dX11_rowOn_16 : decode cX11_rowOn 16 = .ok (.aconst_null, 1) := by decide +kernel
theorem dX11_rowOn_17 : decode cX11_rowOn 17 = .ok (.areturn, 1) := by decide +kernel
theorem dX11_whyNoKind_0 : decode cX11_whyNoKind 0 = .ok (.iload_n 1, 1) := by decide +kernel
theorem dX11_whyNoKind_1 : decode cX11_whyNoKind 1 = .ok (.invokestatic 45, 3) := by decide +kernel
theorem dX11_whyNoKind_4 : decode cX11_whyNoKind 4 = .ok (.ifCond .ne 5, 3) := by decide +kernel
theorem dX11_whyNoKind_7 : decode cX11_whyNoKind 7 = .ok (.iconst (-1), 1) := by decide +kernel
theorem dX11_whyNoKind_8 : decode cX11_whyNoKind 8 = .ok (.ireturn, 1) := by decide +kernel
theorem dX11_whyNoKind_9 : decode cX11_whyNoKind 9 = .ok (.aload_n 0, 1) := by decide +kernel
theorem dX11_whyNoKind_10 : decode cX11_whyNoKind 10 = .ok (.iload_n 1, 1) := by decide +kernel
theorem dX11_whyNoKind_11 : decode cX11_whyNoKind 11 = .ok (.invokevirtual 49, 3) := by decide +kernel
theorem dX11_whyNoKind_14 : decode cX11_whyNoKind 14 = .ok (.ifnonnull 8, 3) := by decide +kernel
theorem dX11_whyNoKind_17 : decode cX11_whyNoKind 17 = .ok (.bipush (-11), 2) := by decide +kernel
theorem dX11_whyNoKind_19 : decode cX11_whyNoKind 19 = .ok (.goto 5, 3) := by decide +kernel
theorem dX11_whyNoKind_22 : decode cX11_whyNoKind 22 = .ok (.bipush (-12), 2) := by decide +kernel
theorem dX11_whyNoKind_24 : decode cX11_whyNoKind 24 = .ok (.ireturn, 1) := by decide +kernel
theorem dX11_whyNoRow_0 : decode cX11_whyNoRow 0 = .ok (.iload_n 1, 1) := by decide +kernel
theorem dX11_whyNoRow_1 : decode cX11_whyNoRow 1 = .ok (.invokestatic 45, 3) := by decide +kernel
theorem dX11_whyNoRow_4 : decode cX11_whyNoRow 4 = .ok (.ifCond .ne 5, 3) := by decide +kernel
theorem dX11_whyNoRow_7 : decode cX11_whyNoRow 7 = .ok (.iconst (-1), 1) := by decide +kernel
theorem dX11_whyNoRow_8 : decode cX11_whyNoRow 8 = .ok (.ireturn, 1) := by decide +kernel
theorem dX11_whyNoRow_9 : decode cX11_whyNoRow 9 = .ok (.aload_n 0, 1) := by decide +kernel
theorem dX11_whyNoRow_10 : decode cX11_whyNoRow 10 = .ok (.iload_n 1, 1) := by decide +kernel
theorem dX11_whyNoRow_11 : decode cX11_whyNoRow 11 = .ok (.invokevirtual 119, 3) := by decide +kernel
theorem dX11_whyNoRow_14 : decode cX11_whyNoRow 14 = .ok (.ifnonnull 8, 3) := by decide +kernel
theorem dX11_whyNoRow_17 : decode cX11_whyNoRow 17 = .ok (.bipush (-11), 2) := by decide +kernel
theorem dX11_whyNoRow_19 : decode cX11_whyNoRow 19 = .ok (.goto 5, 3) := by decide +kernel
theorem dX11_whyNoRow_22 : decode cX11_whyNoRow 22 = .ok (.bipush (-12), 2) := by decide +kernel
theorem dX11_whyNoRow_24 : decode cX11_whyNoRow 24 = .ok (.ireturn, 1) := by decide +kernel
theorem dX11_areTwo_0 : decode cX11_areTwo 0 = .ok (.aload_n 0, 1) := by decide +kernel
theorem dX11_areTwo_1 : decode cX11_areTwo 1 = .ok (.getfield 10, 3) := by decide +kernel
theorem dX11_areTwo_4 : decode cX11_areTwo 4 = .ok (.iload_n 1, 1) := by decide +kernel
theorem dX11_areTwo_5 : decode cX11_areTwo 5 = .ok (.invokevirtual 84, 3) := by decide +kernel
theorem dX11_areTwo_8 : decode cX11_areTwo 8 = .ok (.ifCond .eq 23, 3) := by decide +kernel
theorem dX11_areTwo_11 : decode cX11_areTwo 11 = .ok (.aload_n 0, 1) := by decide +kernel
theorem dX11_areTwo_12 : decode cX11_areTwo 12 = .ok (.getfield 10, 3) := by decide +kernel
theorem dX11_areTwo_15 : decode cX11_areTwo 15 = .ok (.iload_n 2, 1) := by decide +kernel
theorem dX11_areTwo_16 : decode cX11_areTwo 16 = .ok (.invokevirtual 84, 3) := by decide +kernel
theorem dX11_areTwo_19 : decode cX11_areTwo 19 = .ok (.ifCond .eq 12, 3) := by decide +kernel
theorem dX11_areTwo_22 : decode cX11_areTwo 22 = .ok (.iload_n 1, 1) := by decide +kernel
theorem dX11_areTwo_23 : decode cX11_areTwo 23 = .ok (.iload_n 2, 1) := by decide +kernel
theorem dX11_areTwo_24 : decode cX11_areTwo 24 = .ok (.if_icmp .eq 7, 3) := by decide +kernel
theorem dX11_areTwo_27 : decode cX11_areTwo 27 = .ok (.iconst 1, 1) := by decide +kernel
theorem dX11_areTwo_28 : decode cX11_areTwo 28 = .ok (.goto 4, 3) := by decide +kernel
theorem dX11_areTwo_31 : decode cX11_areTwo 31 = .ok (.iconst 0, 1) := by decide +kernel
theorem dX11_areTwo_32 : decode cX11_areTwo 32 = .ok (.ireturn, 1) := by decide +kernel
theorem dX11_isWeight_0 : decode cX11_isWeight 0 = .ok (.iload_n 0, 1) := by decide +kernel
theorem dX11_isWeight_1 : decode cX11_isWeight 1 = .ok (.ifCond .lt 13, 3) := by decide +kernel
theorem dX11_isWeight_4 : decode cX11_isWeight 4 = .ok (.iload_n 0, 1) := by decide +kernel
theorem dX11_isWeight_5 : decode cX11_isWeight 5 = .ok (.bipush 99, 2) := by decide +kernel
theorem dX11_isWeight_7 : decode cX11_isWeight 7 = .ok (.if_icmp .gt 7, 3) := by decide +kernel
theorem dX11_isWeight_10 : decode cX11_isWeight 10 = .ok (.iconst 1, 1) := by decide +kernel
theorem dX11_isWeight_11 : decode cX11_isWeight 11 = .ok (.goto 4, 3) := by decide +kernel
theorem dX11_isWeight_14 : decode cX11_isWeight 14 = .ok (.iconst 0, 1) := by decide +kernel
theorem dX11_isWeight_15 : decode cX11_isWeight 15 = .ok (.ireturn, 1) := by decide +kernel
theorem dX11_isDigit_0 : decode cX11_isDigit 0 = .ok (.iload_n 0, 1) := by decide +kernel
theorem dX11_isDigit_1 : decode cX11_isDigit 1 = .ok (.ifCond .lt 13, 3) := by decide +kernel
theorem dX11_isDigit_4 : decode cX11_isDigit 4 = .ok (.iload_n 0, 1) := by decide +kernel
theorem dX11_isDigit_5 : decode cX11_isDigit 5 = .ok (.bipush 9, 2) := by decide +kernel
theorem dX11_isDigit_7 : decode cX11_isDigit 7 = .ok (.if_icmp .gt 7, 3) := by decide +kernel
theorem dX11_isDigit_10 : decode cX11_isDigit 10 = .ok (.iconst 1, 1) := by decide +kernel
theorem dX11_isDigit_11 : decode cX11_isDigit 11 = .ok (.goto 4, 3) := by decide +kernel
theorem dX11_isDigit_14 : decode cX11_isDigit 14 = .ok (.iconst 0, 1) := by decide +kernel
theorem dX11_isDigit_15 : decode cX11_isDigit 15 = .ok (.ireturn, 1) := by decide +kernel
theorem dX11_isDaysOn_0 : decode cX11_isDaysOn 0 = .ok (.iload_n 0, 1) := by decide +kernel
theorem dX11_isDaysOn_1 : decode cX11_isDaysOn 1 = .ok (.ifCond .lt 13, 3) := by decide +kernel
theorem dX11_isDaysOn_4 : decode cX11_isDaysOn 4 = .ok (.iload_n 0, 1) := by decide +kernel
theorem dX11_isDaysOn_5 : decode cX11_isDaysOn 5 = .ok (.bipush 60, 2) := by decide +kernel
theorem dX11_isDaysOn_7 : decode cX11_isDaysOn 7 = .ok (.if_icmp .gt 7, 3) := by decide +kernel
theorem dX11_isDaysOn_10 : decode cX11_isDaysOn 10 = .ok (.iconst 1, 1) := by decide +kernel
theorem dX11_isDaysOn_11 : decode cX11_isDaysOn 11 = .ok (.goto 4, 3) := by decide +kernel
theorem dX11_isDaysOn_14 : decode cX11_isDaysOn 14 = .ok (.iconst 0, 1) := by decide +kernel
theorem dX11_isDaysOn_15 : decode cX11_isDaysOn 15 = .ok (.ireturn, 1) := by decide +kernel
theorem dX11_isPart_0 : decode cX11_isPart 0 = .ok (.iload_n 0, 1) := by decide +kernel
theorem dX11_isPart_1 : decode cX11_isPart 1 = .ok (.ifCond .eq 8, 3) := by decide +kernel
theorem dX11_isPart_4 : decode cX11_isPart 4 = .ok (.iload_n 0, 1) := by decide +kernel
theorem dX11_isPart_5 : decode cX11_isPart 5 = .ok (.iconst 1, 1) := by decide +kernel
theorem dX11_isPart_6 : decode cX11_isPart 6 = .ok (.if_icmp .ne 7, 3) := by decide +kernel
theorem dX11_isPart_9 : decode cX11_isPart 9 = .ok (.iconst 1, 1) := by decide +kernel
theorem dX11_isPart_10 : decode cX11_isPart 10 = .ok (.goto 4, 3) := by decide +kernel
theorem dX11_isPart_13 : decode cX11_isPart 13 = .ok (.iconst 0, 1) := by decide +kernel
theorem dX11_isPart_14 : decode cX11_isPart 14 = .ok (.ireturn, 1) := by decide +kernel
theorem dX11_lowestOf_0 : decode cX11_lowestOf 0 = .ok (.iconst 0, 1) := by decide +kernel
theorem dX11_lowestOf_1 : decode cX11_lowestOf 1 = .ok (.istore_n 1, 1) := by decide +kernel
theorem dX11_lowestOf_2 : decode cX11_lowestOf 2 = .ok (.iload_n 1, 1) := by decide +kernel
theorem dX11_lowestOf_3 : decode cX11_lowestOf 3 = .ok (.bipush 6, 2) := by decide +kernel
theorem dX11_lowestOf_5 : decode cX11_lowestOf 5 = .ok (.if_icmp .ge 17, 3) := by decide +kernel
theorem dX11_lowestOf_8 : decode cX11_lowestOf 8 = .ok (.iload_n 0, 1) := by decide +kernel
theorem dX11_lowestOf_9 : decode cX11_lowestOf 9 = .ok (.iload_n 1, 1) := by decide +kernel
theorem dX11_lowestOf_10 : decode cX11_lowestOf 10 = .ok (.ishr, 1) := by decide +kernel
theorem dX11_lowestOf_11 : decode cX11_lowestOf 11 = .ok (.iconst 1, 1) := by decide +kernel
theorem dX11_lowestOf_12 : decode cX11_lowestOf 12 = .ok (.iand, 1) := by decide +kernel
theorem dX11_lowestOf_13 : decode cX11_lowestOf 13 = .ok (.ifCond .ne 9, 3) := by decide +kernel
theorem dX11_lowestOf_16 : decode cX11_lowestOf 16 = .ok (.iinc 1 1, 3) := by decide +kernel
theorem dX11_lowestOf_19 : decode cX11_lowestOf 19 = .ok (.goto (-17), 3) := by decide +kernel
theorem dX11_lowestOf_22 : decode cX11_lowestOf 22 = .ok (.iload_n 1, 1) := by decide +kernel
theorem dX11_lowestOf_23 : decode cX11_lowestOf 23 = .ok (.ireturn, 1) := by decide +kernel
theorem dX11_power_0 : decode cX11_power 0 = .ok (.lconst 1, 1) := by decide +kernel
theorem dX11_power_1 : decode cX11_power 1 = .ok (.lstore_n 2, 1) := by decide +kernel
theorem dX11_power_2 : decode cX11_power 2 = .ok (.iconst 0, 1) := by decide +kernel
theorem dX11_power_3 : decode cX11_power 3 = .ok (.istore 4, 2) := by decide +kernel
theorem dX11_power_5 : decode cX11_power 5 = .ok (.iload 4, 2) := by decide +kernel
theorem dX11_power_7 : decode cX11_power 7 = .ok (.iload_n 1, 1) := by decide +kernel
theorem dX11_power_8 : decode cX11_power 8 = .ok (.if_icmp .ge 14, 3) := by decide +kernel
theorem dX11_power_11 : decode cX11_power 11 = .ok (.lload_n 2, 1) := by decide +kernel
theorem dX11_power_12 : decode cX11_power 12 = .ok (.iload_n 0, 1) := by decide +kernel
theorem dX11_power_13 : decode cX11_power 13 = .ok (.i2l, 1) := by decide +kernel
theorem dX11_power_14 : decode cX11_power 14 = .ok (.lmul, 1) := by decide +kernel
theorem dX11_power_15 : decode cX11_power 15 = .ok (.lstore_n 2, 1) := by decide +kernel
theorem dX11_power_16 : decode cX11_power 16 = .ok (.iinc 4 1, 3) := by decide +kernel
theorem dX11_power_19 : decode cX11_power 19 = .ok (.goto (-14), 3) := by decide +kernel
theorem dX11_power_22 : decode cX11_power 22 = .ok (.lload_n 2, 1) := by decide +kernel
theorem dX11_power_23 : decode cX11_power 23 = .ok (.lreturn, 1) := by decide +kernel
theorem dX11_leastTerms_0 : decode cX11_leastTerms 0 = .ok (.lload_n 2, 1) := by decide +kernel
theorem dX11_leastTerms_1 : decode cX11_leastTerms 1 = .ok (.lstore 5, 2) := by decide +kernel
theorem dX11_leastTerms_3 : decode cX11_leastTerms 3 = .ok (.lload_n 0, 1) := by decide +kernel
theorem dX11_leastTerms_4 : decode cX11_leastTerms 4 = .ok (.lstore 7, 2) := by decide +kernel
theorem dX11_leastTerms_6 : decode cX11_leastTerms 6 = .ok (.iconst 0, 1) := by decide +kernel
theorem dX11_leastTerms_7 : decode cX11_leastTerms 7 = .ok (.istore 9, 2) := by decide +kernel
theorem dX11_leastTerms_9 : decode cX11_leastTerms 9 = .ok (.iload 9, 2) := by decide +kernel
theorem dX11_leastTerms_11 : decode cX11_leastTerms 11 = .ok (.sipush 128, 3) := by decide +kernel
theorem dX11_leastTerms_14 : decode cX11_leastTerms 14 = .ok (.if_icmp .ge 31, 3) := by decide +kernel
theorem dX11_leastTerms_17 : decode cX11_leastTerms 17 = .ok (.lload 7, 2) := by decide +kernel
theorem dX11_leastTerms_19 : decode cX11_leastTerms 19 = .ok (.lconst 0, 1) := by decide +kernel
theorem dX11_leastTerms_20 : decode cX11_leastTerms 20 = .ok (.lcmp, 1) := by decide +kernel
theorem dX11_leastTerms_21 : decode cX11_leastTerms 21 = .ok (.ifCond .eq 24, 3) := by decide +kernel
theorem dX11_leastTerms_24 : decode cX11_leastTerms 24 = .ok (.lload 5, 2) := by decide +kernel
theorem dX11_leastTerms_26 : decode cX11_leastTerms 26 = .ok (.lload 7, 2) := by decide +kernel
theorem dX11_leastTerms_28 : decode cX11_leastTerms 28 = .ok (.lrem, 1) := by decide +kernel
theorem dX11_leastTerms_29 : decode cX11_leastTerms 29 = .ok (.lstore 10, 2) := by decide +kernel
theorem dX11_leastTerms_31 : decode cX11_leastTerms 31 = .ok (.lload 7, 2) := by decide +kernel
theorem dX11_leastTerms_33 : decode cX11_leastTerms 33 = .ok (.lstore 5, 2) := by decide +kernel
theorem dX11_leastTerms_35 : decode cX11_leastTerms 35 = .ok (.lload 10, 2) := by decide +kernel
theorem dX11_leastTerms_37 : decode cX11_leastTerms 37 = .ok (.lstore 7, 2) := by decide +kernel
theorem dX11_leastTerms_39 : decode cX11_leastTerms 39 = .ok (.iinc 9 1, 3) := by decide +kernel
theorem dX11_leastTerms_42 : decode cX11_leastTerms 42 = .ok (.goto (-33), 3) := by decide +kernel
theorem dX11_leastTerms_45 : decode cX11_leastTerms 45 = .ok (.lload 5, 2) := by decide +kernel
theorem dX11_leastTerms_47 : decode cX11_leastTerms 47 = .ok (.lconst 0, 1) := by decide +kernel
theorem dX11_leastTerms_48 : decode cX11_leastTerms 48 = .ok (.lcmp, 1) := by decide +kernel
theorem dX11_leastTerms_49 : decode cX11_leastTerms 49 = .ok (.ifCond .ne 5, 3) := by decide +kernel
theorem dX11_leastTerms_52 : decode cX11_leastTerms 52 = .ok (.lconst 0, 1) := by decide +kernel
theorem dX11_leastTerms_53 : decode cX11_leastTerms 53 = .ok (.lreturn, 1) := by decide +kernel
theorem dX11_leastTerms_54 : decode cX11_leastTerms 54 = .ok (.iload 4, 2) := by decide +kernel
theorem dX11_leastTerms_56 : decode cX11_leastTerms 56 = .ok (.ifCond .ne 10, 3) := by decide +kernel
theorem dX11_leastTerms_59 : decode cX11_leastTerms 59 = .ok (.lload_n 0, 1) := by decide +kernel
theorem dX11_leastTerms_60 : decode cX11_leastTerms 60 = .ok (.lload 5, 2) := by decide +kernel
theorem dX11_leastTerms_62 : decode cX11_leastTerms 62 = .ok (.ldiv, 1) := by decide +kernel
theorem dX11_leastTerms_63 : decode cX11_leastTerms 63 = .ok (.goto 7, 3) := by decide +kernel
theorem dX11_leastTerms_66 : decode cX11_leastTerms 66 = .ok (.lload_n 2, 1) := by decide +kernel
theorem dX11_leastTerms_67 : decode cX11_leastTerms 67 = .ok (.lload 5, 2) := by decide +kernel
theorem dX11_leastTerms_69 : decode cX11_leastTerms 69 = .ok (.ldiv, 1) := by decide +kernel
theorem dX11_leastTerms_70 : decode cX11_leastTerms 70 = .ok (.lreturn, 1) := by decide +kernel
theorem dX11_kindOf_0 : decode cX11_kindOf 0 = .ok (.iload_n 0, 1) := by decide +kernel
theorem dX11_kindOf_1 : decode cX11_kindOf 1 = .ok (.tableswitch 113 1 7 #[43, 53, 63, 73, 83, 93, 103], 43) := by decide +kernel
theorem dX11_kindOf_44 : decode cX11_kindOf 44 = .ok (.new 362, 3) := by decide +kernel
theorem dX11_kindOf_47 : decode cX11_kindOf 47 = .ok (.dup, 1) := by decide +kernel
theorem dX11_kindOf_48 : decode cX11_kindOf 48 = .ok (.iload_n 0, 1) := by decide +kernel
theorem dX11_kindOf_49 : decode cX11_kindOf 49 = .ok (.iload_n 1, 1) := by decide +kernel
theorem dX11_kindOf_50 : decode cX11_kindOf 50 = .ok (.invokespecial 364, 3) := by decide +kernel
theorem dX11_kindOf_53 : decode cX11_kindOf 53 = .ok (.areturn, 1) := by decide +kernel
theorem dX11_kindOf_54 : decode cX11_kindOf 54 = .ok (.new 365, 3) := by decide +kernel
theorem dX11_kindOf_57 : decode cX11_kindOf 57 = .ok (.dup, 1) := by decide +kernel
theorem dX11_kindOf_58 : decode cX11_kindOf 58 = .ok (.iload_n 0, 1) := by decide +kernel
theorem dX11_kindOf_59 : decode cX11_kindOf 59 = .ok (.iload_n 1, 1) := by decide +kernel
theorem dX11_kindOf_60 : decode cX11_kindOf 60 = .ok (.invokespecial 367, 3) := by decide +kernel
theorem dX11_kindOf_63 : decode cX11_kindOf 63 = .ok (.areturn, 1) := by decide +kernel
theorem dX11_kindOf_64 : decode cX11_kindOf 64 = .ok (.new 368, 3) := by decide +kernel
theorem dX11_kindOf_67 : decode cX11_kindOf 67 = .ok (.dup, 1) := by decide +kernel
theorem dX11_kindOf_68 : decode cX11_kindOf 68 = .ok (.iload_n 0, 1) := by decide +kernel
theorem dX11_kindOf_69 : decode cX11_kindOf 69 = .ok (.iload_n 1, 1) := by decide +kernel
theorem dX11_kindOf_70 : decode cX11_kindOf 70 = .ok (.invokespecial 370, 3) := by decide +kernel
theorem dX11_kindOf_73 : decode cX11_kindOf 73 = .ok (.areturn, 1) := by decide +kernel
theorem dX11_kindOf_74 : decode cX11_kindOf 74 = .ok (.new 371, 3) := by decide +kernel
theorem dX11_kindOf_77 : decode cX11_kindOf 77 = .ok (.dup, 1) := by decide +kernel
theorem dX11_kindOf_78 : decode cX11_kindOf 78 = .ok (.iload_n 0, 1) := by decide +kernel
theorem dX11_kindOf_79 : decode cX11_kindOf 79 = .ok (.iload_n 1, 1) := by decide +kernel
theorem dX11_kindOf_80 : decode cX11_kindOf 80 = .ok (.invokespecial 373, 3) := by decide +kernel
theorem dX11_kindOf_83 : decode cX11_kindOf 83 = .ok (.areturn, 1) := by decide +kernel
theorem dX11_kindOf_84 : decode cX11_kindOf 84 = .ok (.new 374, 3) := by decide +kernel
theorem dX11_kindOf_87 : decode cX11_kindOf 87 = .ok (.dup, 1) := by decide +kernel
theorem dX11_kindOf_88 : decode cX11_kindOf 88 = .ok (.iload_n 0, 1) := by decide +kernel
theorem dX11_kindOf_89 : decode cX11_kindOf 89 = .ok (.iload_n 1, 1) := by decide +kernel
theorem dX11_kindOf_90 : decode cX11_kindOf 90 = .ok (.invokespecial 376, 3) := by decide +kernel
theorem dX11_kindOf_93 : decode cX11_kindOf 93 = .ok (.areturn, 1) := by decide +kernel
theorem dX11_kindOf_94 : decode cX11_kindOf 94 = .ok (.new 377, 3) := by decide +kernel
theorem dX11_kindOf_97 : decode cX11_kindOf 97 = .ok (.dup, 1) := by decide +kernel
theorem dX11_kindOf_98 : decode cX11_kindOf 98 = .ok (.iload_n 0, 1) := by decide +kernel
theorem dX11_kindOf_99 : decode cX11_kindOf 99 = .ok (.iload_n 1, 1) := by decide +kernel
theorem dX11_kindOf_100 : decode cX11_kindOf 100 = .ok (.invokespecial 379, 3) := by decide +kernel
theorem dX11_kindOf_103 : decode cX11_kindOf 103 = .ok (.areturn, 1) := by decide +kernel
theorem dX11_kindOf_104 : decode cX11_kindOf 104 = .ok (.new 380, 3) := by decide +kernel
theorem dX11_kindOf_107 : decode cX11_kindOf 107 = .ok (.dup, 1) := by decide +kernel
theorem dX11_kindOf_108 : decode cX11_kindOf 108 = .ok (.iload_n 0, 1) := by decide +kernel
theorem dX11_kindOf_109 : decode cX11_kindOf 109 = .ok (.iload_n 1, 1) := by decide +kernel
theorem dX11_kindOf_110 : decode cX11_kindOf 110 = .ok (.invokespecial 382, 3) := by decide +kernel
theorem dX11_kindOf_113 : decode cX11_kindOf 113 = .ok (.areturn, 1) := by decide +kernel
theorem dX11_kindOf_114 : decode cX11_kindOf 114 = .ok (.new 26, 3) := by decide +kernel
theorem dX11_kindOf_117 : decode cX11_kindOf 117 = .ok (.dup, 1) := by decide +kernel
theorem dX11_kindOf_118 : decode cX11_kindOf 118 = .ok (.iconst 0, 1) := by decide +kernel
theorem dX11_kindOf_119 : decode cX11_kindOf 119 = .ok (.iload_n 1, 1) := by decide +kernel
theorem dX11_kindOf_120 : decode cX11_kindOf 120 = .ok (.invokespecial 383, 3) := by decide +kernel
theorem dX11_kindOf_123 : decode cX11_kindOf 123 = .ok (.areturn, 1) := by decide +kernel
end
section
theorem dX12_init_0 : decode cX12_init 0 = .ok (.aload_n 0, 1) := by decide +kernel
theorem dX12_init_1 : decode cX12_init 1 = .ok (.invokespecial 1, 3) := by decide +kernel
theorem dX12_init_4 : decode cX12_init 4 = .ok (.aload_n 0, 1) := by decide +kernel
theorem dX12_init_5 : decode cX12_init 5 = .ok (.bipush 54, 2) := by decide +kernel
theorem dX12_init_7 : decode cX12_init 7 = .ok (.newarray .int, 2) := by decide +kernel
theorem dX12_init_9 : decode cX12_init 9 = .ok (.putfield 9, 3) := by decide +kernel
theorem dX12_init_12 : decode cX12_init 12 = .ok (.aload_n 0, 1) := by decide +kernel
theorem dX12_init_13 : decode cX12_init 13 = .ok (.bipush 54, 2) := by decide +kernel
theorem dX12_init_15 : decode cX12_init 15 = .ok (.newarray .int, 2) := by decide +kernel
theorem dX12_init_17 : decode cX12_init 17 = .ok (.putfield 13, 3) := by decide +kernel
theorem dX12_init_20 : decode cX12_init 20 = .ok (.aload_n 0, 1) := by decide +kernel
theorem dX12_init_21 : decode cX12_init 21 = .ok (.bipush 54, 2) := by decide +kernel
theorem dX12_init_23 : decode cX12_init 23 = .ok (.newarray .int, 2) := by decide +kernel
theorem dX12_init_25 : decode cX12_init 25 = .ok (.putfield 16, 3) := by decide +kernel
theorem dX12_init_28 : decode cX12_init 28 = .ok (.aload_n 0, 1) := by decide +kernel
theorem dX12_init_29 : decode cX12_init 29 = .ok (.bipush 54, 2) := by decide +kernel
theorem dX12_init_31 : decode cX12_init 31 = .ok (.newarray .int, 2) := by decide +kernel
theorem dX12_init_33 : decode cX12_init 33 = .ok (.putfield 19, 3) := by decide +kernel
theorem dX12_init_36 : decode cX12_init 36 = .ok (.aload_n 0, 1) := by decide +kernel
theorem dX12_init_37 : decode cX12_init 37 = .ok (.iconst 3, 1) := by decide +kernel
theorem dX12_init_38 : decode cX12_init 38 = .ok (.newarray .int, 2) := by decide +kernel
theorem dX12_init_40 : decode cX12_init 40 = .ok (.putfield 22, 3) := by decide +kernel
theorem dX12_init_43 : decode cX12_init 43 = .ok (.aload_n 0, 1) := by decide +kernel
theorem dX12_init_44 : decode cX12_init 44 = .ok (.bipush 49, 2) := by decide +kernel
theorem dX12_init_46 : decode cX12_init 46 = .ok (.newarray .int, 2) := by decide +kernel
theorem dX12_init_48 : decode cX12_init 48 = .ok (.putfield 25, 3) := by decide +kernel
theorem dX12_init_51 : decode cX12_init 51 = .ok (.aload_n 0, 1) := by decide +kernel
theorem dX12_init_52 : decode cX12_init 52 = .ok (.sipush 128, 3) := by decide +kernel
theorem dX12_init_55 : decode cX12_init 55 = .ok (.newarray .int, 2) := by decide +kernel
theorem dX12_init_57 : decode cX12_init 57 = .ok (.putfield 28, 3) := by decide +kernel
theorem dX12_init_60 : decode cX12_init 60 = .ok (.aload_n 0, 1) := by decide +kernel
theorem dX12_init_61 : decode cX12_init 61 = .ok (.bipush 8, 2) := by decide +kernel
theorem dX12_init_63 : decode cX12_init 63 = .ok (.newarray .int, 2) := by decide +kernel
theorem dX12_init_65 : decode cX12_init 65 = .ok (.putfield 31, 3) := by decide +kernel
theorem dX12_init_68 : decode cX12_init 68 = .ok (.aload_n 0, 1) := by decide +kernel
theorem dX12_init_69 : decode cX12_init 69 = .ok (.bipush 8, 2) := by decide +kernel
theorem dX12_init_71 : decode cX12_init 71 = .ok (.newarray .int, 2) := by decide +kernel
theorem dX12_init_73 : decode cX12_init 73 = .ok (.putfield 34, 3) := by decide +kernel
theorem dX12_init_76 : decode cX12_init 76 = .ok (.aload_n 0, 1) := by decide +kernel
theorem dX12_init_77 : decode cX12_init 77 = .ok (.bipush 8, 2) := by decide +kernel
theorem dX12_init_79 : decode cX12_init 79 = .ok (.newarray .int, 2) := by decide +kernel
theorem dX12_init_81 : decode cX12_init 81 = .ok (.putfield 37, 3) := by decide +kernel
theorem dX12_init_84 : decode cX12_init 84 = .ok (.aload_n 0, 1) := by decide +kernel
theorem dX12_init_85 : decode cX12_init 85 = .ok (.bipush 8, 2) := by decide +kernel
theorem dX12_init_87 : decode cX12_init 87 = .ok (.newarray .int, 2) := by decide +kernel
theorem dX12_init_89 : decode cX12_init 89 = .ok (.putfield 40, 3) := by decide +kernel
theorem dX12_init_92 : decode cX12_init 92 = .ok (.aload_n 0, 1) := by decide +kernel
theorem dX12_init_93 : decode cX12_init 93 = .ok (.bipush 8, 2) := by decide +kernel
theorem dX12_init_95 : decode cX12_init 95 = .ok (.newarray .int, 2) := by decide +kernel
theorem dX12_init_97 : decode cX12_init 97 = .ok (.putfield 43, 3) := by decide +kernel
theorem dX12_init_100 : decode cX12_init 100 = .ok (.aload_n 0, 1) := by decide +kernel
theorem dX12_init_101 : decode cX12_init 101 = .ok (.sipush 800, 3) := by decide +kernel
theorem dX12_init_104 : decode cX12_init 104 = .ok (.newarray .int, 2) := by decide +kernel
theorem dX12_init_106 : decode cX12_init 106 = .ok (.putfield 46, 3) := by decide +kernel
theorem dX12_init_109 : decode cX12_init 109 = .ok (.aload_n 0, 1) := by decide +kernel
theorem dX12_init_110 : decode cX12_init 110 = .ok (.getfield 9, 3) := by decide +kernel
theorem dX12_init_113 : decode cX12_init 113 = .ok (.iconst 3, 1) := by decide +kernel
theorem dX12_init_114 : decode cX12_init 114 = .ok (.iconst 2, 1) := by decide +kernel
theorem dX12_init_115 : decode cX12_init 115 = .ok (.iastore, 1) := by decide +kernel
theorem dX12_init_116 : decode cX12_init 116 = .ok (.aload_n 0, 1) := by decide +kernel
theorem dX12_init_117 : decode cX12_init 117 = .ok (.getfield 9, 3) := by decide +kernel
theorem dX12_init_120 : decode cX12_init 120 = .ok (.iconst 4, 1) := by decide +kernel
theorem dX12_init_121 : decode cX12_init 121 = .ok (.iconst 3, 1) := by decide +kernel
theorem dX12_init_122 : decode cX12_init 122 = .ok (.iastore, 1) := by decide +kernel
theorem dX12_init_123 : decode cX12_init 123 = .ok (.return_, 1) := by decide +kernel
theorem dX12_isIn_0 : decode cX12_isIn 0 = .ok (.iload_n 0, 1) := by decide +kernel
theorem dX12_isIn_1 : decode cX12_isIn 1 = .ok (.iload_n 1, 1) := by decide +kernel
theorem dX12_isIn_2 : decode cX12_isIn 2 = .ok (.if_icmp .lt 12, 3) := by decide +kernel
theorem dX12_isIn_5 : decode cX12_isIn 5 = .ok (.iload_n 0, 1) := by decide +kernel
theorem dX12_isIn_6 : decode cX12_isIn 6 = .ok (.iload_n 2, 1) := by decide +kernel
theorem dX12_isIn_7 : decode cX12_isIn 7 = .ok (.if_icmp .gt 7, 3) := by decide +kernel
theorem dX12_isIn_10 : decode cX12_isIn 10 = .ok (.iconst 1, 1) := by decide +kernel
theorem dX12_isIn_11 : decode cX12_isIn 11 = .ok (.goto 4, 3) := by decide +kernel
theorem dX12_isIn_14 : decode cX12_isIn 14 = .ok (.iconst 0, 1) := by decide +kernel
theorem dX12_isIn_15 : decode cX12_isIn 15 = .ok (.ireturn, 1) := by decide +kernel
theorem dX12_held_0 : decode cX12_held 0 = .ok (.iload_n 0, 1) := by decide +kernel
theorem dX12_held_1 : decode cX12_held 1 = .ok (.ifCond .ge 7, 3) := by decide +kernel
theorem dX12_held_4 : decode cX12_held 4 = .ok (.iconst 0, 1) := by decide +kernel
theorem dX12_held_5 : decode cX12_held 5 = .ok (.goto 15, 3) := by decide +kernel
theorem dX12_held_8 : decode cX12_held 8 = .ok (.iload_n 0, 1) := by decide +kernel
theorem dX12_held_9 : decode cX12_held 9 = .ok (.bipush 99, 2) := by decide +kernel
theorem dX12_held_11 : decode cX12_held 11 = .ok (.if_icmp .le 8, 3) := by decide +kernel
theorem dX12_held_14 : decode cX12_held 14 = .ok (.bipush 99, 2) := by decide +kernel
theorem dX12_held_16 : decode cX12_held 16 = .ok (.goto 4, 3) := by decide +kernel
theorem dX12_held_19 : decode cX12_held 19 = .ok (.iload_n 0, 1) := by decide +kernel
theorem dX12_held_20 : decode cX12_held 20 = .ok (.ireturn, 1) := by decide +kernel
theorem dX12_copies_0 : decode cX12_copies 0 = .ok (.iconst 0, 1) := by decide +kernel
theorem dX12_copies_1 : decode cX12_copies 1 = .ok (.istore_n 2, 1) := by decide +kernel
theorem dX12_copies_2 : decode cX12_copies 2 = .ok (.iload_n 2, 1) := by decide +kernel
theorem dX12_copies_3 : decode cX12_copies 3 = .ok (.bipush 54, 2) := by decide +kernel
theorem dX12_copies_5 : decode cX12_copies 5 = .ok (.if_icmp .ge 15, 3) := by decide +kernel
theorem dX12_copies_8 : decode cX12_copies 8 = .ok (.aload_n 1, 1) := by decide +kernel
theorem dX12_copies_9 : decode cX12_copies 9 = .ok (.iload_n 2, 1) := by decide +kernel
theorem dX12_copies_10 : decode cX12_copies 10 = .ok (.aload_n 0, 1) := by decide +kernel
theorem dX12_copies_11 : decode cX12_copies 11 = .ok (.iload_n 2, 1) := by decide +kernel
theorem dX12_copies_12 : decode cX12_copies 12 = .ok (.iaload, 1) := by decide +kernel
theorem dX12_copies_13 : decode cX12_copies 13 = .ok (.iastore, 1) := by decide +kernel
theorem dX12_copies_14 : decode cX12_copies 14 = .ok (.iinc 2 1, 3) := by decide +kernel
theorem dX12_copies_17 : decode cX12_copies 17 = .ok (.goto (-15), 3) := by decide +kernel
theorem dX12_copies_20 : decode cX12_copies 20 = .ok (.return_, 1) := by decide +kernel
theorem dX12_of_0 : decode cX12_of 0 = .ok (.iconst 5, 1) := by decide +kernel
theorem dX12_of_1 : decode cX12_of 1 = .ok (.bipush 7, 2) := by decide +kernel
theorem dX12_of_3 : decode cX12_of 3 = .ok (.iload_n 0, 1) := by decide +kernel
theorem dX12_of_4 : decode cX12_of 4 = .ok (.imul, 1) := by decide +kernel
theorem dX12_of_5 : decode cX12_of 5 = .ok (.iadd, 1) := by decide +kernel
theorem dX12_of_6 : decode cX12_of 6 = .ok (.iload_n 1, 1) := by decide +kernel
theorem dX12_of_7 : decode cX12_of 7 = .ok (.iadd, 1) := by decide +kernel
theorem dX12_of_8 : decode cX12_of 8 = .ok (.ireturn, 1) := by decide +kernel
theorem dX12_isGuest_0 : decode cX12_isGuest 0 = .ok (.iload_n 1, 1) := by decide +kernel
theorem dX12_isGuest_1 : decode cX12_isGuest 1 = .ok (.iconst 0, 1) := by decide +kernel
theorem dX12_isGuest_2 : decode cX12_isGuest 2 = .ok (.aload_n 0, 1) := by decide +kernel
theorem dX12_isGuest_3 : decode cX12_isGuest 3 = .ok (.getfield 9, 3) := by decide +kernel
theorem dX12_isGuest_6 : decode cX12_isGuest 6 = .ok (.iconst 0, 1) := by decide +kernel
theorem dX12_isGuest_7 : decode cX12_isGuest 7 = .ok (.iaload, 1) := by decide +kernel
theorem dX12_isGuest_8 : decode cX12_isGuest 8 = .ok (.iconst 1, 1) := by decide +kernel
theorem dX12_isGuest_9 : decode cX12_isGuest 9 = .ok (.isub, 1) := by decide +kernel
theorem dX12_isGuest_10 : decode cX12_isGuest 10 = .ok (.invokestatic 49, 3) := by decide +kernel
theorem dX12_isGuest_13 : decode cX12_isGuest 13 = .ok (.ireturn, 1) := by decide +kernel
theorem dX12_isHere_0 : decode cX12_isHere 0 = .ok (.aload_n 0, 1) := by decide +kernel
theorem dX12_isHere_1 : decode cX12_isHere 1 = .ok (.iload_n 1, 1) := by decide +kernel
theorem dX12_isHere_2 : decode cX12_isHere 2 = .ok (.bipush 6, 2) := by decide +kernel
theorem dX12_isHere_4 : decode cX12_isHere 4 = .ok (.invokestatic 53, 3) := by decide +kernel
theorem dX12_isHere_7 : decode cX12_isHere 7 = .ok (.iaload, 1) := by decide +kernel
theorem dX12_isHere_8 : decode cX12_isHere 8 = .ok (.iconst 1, 1) := by decide +kernel
theorem dX12_isHere_9 : decode cX12_isHere 9 = .ok (.if_icmp .ne 7, 3) := by decide +kernel
theorem dX12_isHere_12 : decode cX12_isHere 12 = .ok (.iconst 1, 1) := by decide +kernel
theorem dX12_isHere_13 : decode cX12_isHere 13 = .ok (.goto 4, 3) := by decide +kernel
theorem dX12_isHere_16 : decode cX12_isHere 16 = .ok (.iconst 0, 1) := by decide +kernel
theorem dX12_isHere_17 : decode cX12_isHere 17 = .ok (.ireturn, 1) := by decide +kernel
theorem dX12_has_0 : decode cX12_has 0 = .ok (.iload_n 0, 1) := by decide +kernel
theorem dX12_has_1 : decode cX12_has 1 = .ok (.iload_n 1, 1) := by decide +kernel
theorem dX12_has_2 : decode cX12_has 2 = .ok (.ishr, 1) := by decide +kernel
theorem dX12_has_3 : decode cX12_has 3 = .ok (.iconst 1, 1) := by decide +kernel
theorem dX12_has_4 : decode cX12_has 4 = .ok (.iand, 1) := by decide +kernel
theorem dX12_has_5 : decode cX12_has 5 = .ok (.iconst 1, 1) := by decide +kernel
theorem dX12_has_6 : decode cX12_has 6 = .ok (.if_icmp .ne 7, 3) := by decide +kernel
theorem dX12_has_9 : decode cX12_has 9 = .ok (.iconst 1, 1) := by decide +kernel
theorem dX12_has_10 : decode cX12_has 10 = .ok (.goto 4, 3) := by decide +kernel
theorem dX12_has_13 : decode cX12_has 13 = .ok (.iconst 0, 1) := by decide +kernel
theorem dX12_has_14 : decode cX12_has 14 = .ok (.ireturn, 1) := by decide +kernel
theorem dX12_bits_0 : decode cX12_bits 0 = .ok (.iconst 0, 1) := by decide +kernel
theorem dX12_bits_1 : decode cX12_bits 1 = .ok (.istore_n 1, 1) := by decide +kernel
theorem dX12_bits_2 : decode cX12_bits 2 = .ok (.iconst 0, 1) := by decide +kernel
theorem dX12_bits_3 : decode cX12_bits 3 = .ok (.istore_n 2, 1) := by decide +kernel
theorem dX12_bits_4 : decode cX12_bits 4 = .ok (.iload_n 2, 1) := by decide +kernel
theorem dX12_bits_5 : decode cX12_bits 5 = .ok (.bipush 7, 2) := by decide +kernel
theorem dX12_bits_7 : decode cX12_bits 7 = .ok (.if_icmp .ge 17, 3) := by decide +kernel
theorem dX12_bits_10 : decode cX12_bits 10 = .ok (.iload_n 1, 1) := by decide +kernel
theorem dX12_bits_11 : decode cX12_bits 11 = .ok (.iload_n 0, 1) := by decide +kernel
theorem dX12_bits_12 : decode cX12_bits 12 = .ok (.iload_n 2, 1) := by decide +kernel
theorem dX12_bits_13 : decode cX12_bits 13 = .ok (.ishr, 1) := by decide +kernel
theorem dX12_bits_14 : decode cX12_bits 14 = .ok (.iconst 1, 1) := by decide +kernel
theorem dX12_bits_15 : decode cX12_bits 15 = .ok (.iand, 1) := by decide +kernel
theorem dX12_bits_16 : decode cX12_bits 16 = .ok (.iadd, 1) := by decide +kernel
theorem dX12_bits_17 : decode cX12_bits 17 = .ok (.istore_n 1, 1) := by decide +kernel
theorem dX12_bits_18 : decode cX12_bits 18 = .ok (.iinc 2 1, 3) := by decide +kernel
theorem dX12_bits_21 : decode cX12_bits 21 = .ok (.goto (-17), 3) := by decide +kernel
theorem dX12_bits_24 : decode cX12_bits 24 = .ok (.iload_n 1, 1) := by decide +kernel
theorem dX12_bits_25 : decode cX12_bits 25 = .ok (.ireturn, 1) := by decide +kernel
theorem dX12_ringsBy_0 : decode cX12_ringsBy 0 = .ok (.iload_n 0, 1) := by decide +kernel
theorem dX12_ringsBy_1 : decode cX12_ringsBy 1 = .ok (.tableswitch 59 1 7 #[43, 59, 45, 49, 53, 59, 43], 43) := by decide +kernel
theorem dX12_ringsBy_44 : decode cX12_ringsBy 44 = .ok (.iload_n 1, 1) := by decide +kernel
theorem dX12_ringsBy_45 : decode cX12_ringsBy 45 = .ok (.ireturn, 1) := by decide +kernel
theorem dX12_ringsBy_46 : decode cX12_ringsBy 46 = .ok (.iload_n 1, 1) := by decide +kernel
theorem dX12_ringsBy_47 : decode cX12_ringsBy 47 = .ok (.iconst 2, 1) := by decide +kernel
theorem dX12_ringsBy_48 : decode cX12_ringsBy 48 = .ok (.idiv, 1) := by decide +kernel
theorem dX12_ringsBy_49 : decode cX12_ringsBy 49 = .ok (.ireturn, 1) := by decide +kernel
theorem dX12_ringsBy_50 : decode cX12_ringsBy 50 = .ok (.iconst 2, 1) := by decide +kernel
theorem dX12_ringsBy_51 : decode cX12_ringsBy 51 = .ok (.iload_n 1, 1) := by decide +kernel
theorem dX12_ringsBy_52 : decode cX12_ringsBy 52 = .ok (.imul, 1) := by decide +kernel
theorem dX12_ringsBy_53 : decode cX12_ringsBy 53 = .ok (.ireturn, 1) := by decide +kernel
theorem dX12_ringsBy_54 : decode cX12_ringsBy 54 = .ok (.iload_n 1, 1) := by decide +kernel
theorem dX12_ringsBy_55 : decode cX12_ringsBy 55 = .ok (.iconst 2, 1) := by decide +kernel
theorem dX12_ringsBy_56 : decode cX12_ringsBy 56 = .ok (.idiv, 1) := by decide +kernel
theorem dX12_ringsBy_57 : decode cX12_ringsBy 57 = .ok (.iconst 1, 1) := by decide +kernel
theorem dX12_ringsBy_58 : decode cX12_ringsBy 58 = .ok (.iadd, 1) := by decide +kernel
theorem dX12_ringsBy_59 : decode cX12_ringsBy 59 = .ok (.ireturn, 1) := by decide +kernel
theorem dX12_ringsBy_60 : decode cX12_ringsBy 60 = .ok (.iconst 0, 1) := by decide +kernel
theorem dX12_ringsBy_61 : decode cX12_ringsBy 61 = .ok (.ireturn, 1) := by decide +kernel
theorem dX12_eatsBy_0 : decode cX12_eatsBy 0 = .ok (.iload_n 0, 1) := by decide +kernel
theorem dX12_eatsBy_1 : decode cX12_eatsBy 1 = .ok (.tableswitch 68 1 7 #[43, 47, 68, 51, 57, 61, 43], 43) := by decide +kernel
theorem dX12_eatsBy_44 : decode cX12_eatsBy 44 = .ok (.iload_n 1, 1) := by decide +kernel
theorem dX12_eatsBy_45 : decode cX12_eatsBy 45 = .ok (.iconst 2, 1) := by decide +kernel
theorem dX12_eatsBy_46 : decode cX12_eatsBy 46 = .ok (.idiv, 1) := by decide +kernel
theorem dX12_eatsBy_47 : decode cX12_eatsBy 47 = .ok (.ireturn, 1) := by decide +kernel
theorem dX12_eatsBy_48 : decode cX12_eatsBy 48 = .ok (.iload_n 1, 1) := by decide +kernel
theorem dX12_eatsBy_49 : decode cX12_eatsBy 49 = .ok (.iconst 1, 1) := by decide +kernel
theorem dX12_eatsBy_50 : decode cX12_eatsBy 50 = .ok (.iadd, 1) := by decide +kernel
theorem dX12_eatsBy_51 : decode cX12_eatsBy 51 = .ok (.ireturn, 1) := by decide +kernel
theorem dX12_eatsBy_52 : decode cX12_eatsBy 52 = .ok (.iload_n 1, 1) := by decide +kernel
theorem dX12_eatsBy_53 : decode cX12_eatsBy 53 = .ok (.iconst 2, 1) := by decide +kernel
theorem dX12_eatsBy_54 : decode cX12_eatsBy 54 = .ok (.idiv, 1) := by decide +kernel
theorem dX12_eatsBy_55 : decode cX12_eatsBy 55 = .ok (.iconst 2, 1) := by decide +kernel
theorem dX12_eatsBy_56 : decode cX12_eatsBy 56 = .ok (.iadd, 1) := by decide +kernel
theorem dX12_eatsBy_57 : decode cX12_eatsBy 57 = .ok (.ireturn, 1) := by decide +kernel
theorem dX12_eatsBy_58 : decode cX12_eatsBy 58 = .ok (.iconst 2, 1) := by decide +kernel
theorem dX12_eatsBy_59 : decode cX12_eatsBy 59 = .ok (.iload_n 1, 1) := by decide +kernel
theorem dX12_eatsBy_60 : decode cX12_eatsBy 60 = .ok (.imul, 1) := by decide +kernel
theorem dX12_eatsBy_61 : decode cX12_eatsBy 61 = .ok (.ireturn, 1) := by decide +kernel
theorem dX12_eatsBy_62 : decode cX12_eatsBy 62 = .ok (.iload_n 1, 1) := by decide +kernel
theorem dX12_eatsBy_63 : decode cX12_eatsBy 63 = .ok (.iconst 1, 1) := by decide +kernel
theorem dX12_eatsBy_64 : decode cX12_eatsBy 64 = .ok (.isub, 1) := by decide +kernel
theorem dX12_eatsBy_65 : decode cX12_eatsBy 65 = .ok (.invokestatic 57, 3) := by decide +kernel
theorem dX12_eatsBy_68 : decode cX12_eatsBy 68 = .ok (.ireturn, 1) := by decide +kernel
theorem dX12_eatsBy_69 : decode cX12_eatsBy 69 = .ok (.iload_n 1, 1) := by decide +kernel
theorem dX12_eatsBy_70 : decode cX12_eatsBy 70 = .ok (.ireturn, 1) := by decide +kernel
theorem dX12_dancesBy_0 : decode cX12_dancesBy 0 = .ok (.iload_n 0, 1) := by decide +kernel
theorem dX12_dancesBy_1 : decode cX12_dancesBy 1 = .ok (.tableswitch 70 1 7 #[43, 45, 70, 43, 51, 58, 66], 43) := by decide +kernel
theorem dX12_dancesBy_44 : decode cX12_dancesBy 44 = .ok (.iconst 1, 1) := by decide +kernel
theorem dX12_dancesBy_45 : decode cX12_dancesBy 45 = .ok (.ireturn, 1) := by decide +kernel
theorem dX12_dancesBy_46 : decode cX12_dancesBy 46 = .ok (.iload_n 2, 1) := by decide +kernel
theorem dX12_dancesBy_47 : decode cX12_dancesBy 47 = .ok (.iload_n 1, 1) := by decide +kernel
theorem dX12_dancesBy_48 : decode cX12_dancesBy 48 = .ok (.iconst 3, 1) := by decide +kernel
theorem dX12_dancesBy_49 : decode cX12_dancesBy 49 = .ok (.idiv, 1) := by decide +kernel
theorem dX12_dancesBy_50 : decode cX12_dancesBy 50 = .ok (.iadd, 1) := by decide +kernel
theorem dX12_dancesBy_51 : decode cX12_dancesBy 51 = .ok (.ireturn, 1) := by decide +kernel
theorem dX12_dancesBy_52 : decode cX12_dancesBy 52 = .ok (.iload_n 2, 1) := by decide +kernel
theorem dX12_dancesBy_53 : decode cX12_dancesBy 53 = .ok (.iconst 1, 1) := by decide +kernel
theorem dX12_dancesBy_54 : decode cX12_dancesBy 54 = .ok (.isub, 1) := by decide +kernel
theorem dX12_dancesBy_55 : decode cX12_dancesBy 55 = .ok (.invokestatic 57, 3) := by decide +kernel
theorem dX12_dancesBy_58 : decode cX12_dancesBy 58 = .ok (.ireturn, 1) := by decide +kernel
theorem dX12_dancesBy_59 : decode cX12_dancesBy 59 = .ok (.iload_n 2, 1) := by decide +kernel
theorem dX12_dancesBy_60 : decode cX12_dancesBy 60 = .ok (.iload_n 1, 1) := by decide +kernel
theorem dX12_dancesBy_61 : decode cX12_dancesBy 61 = .ok (.iconst 3, 1) := by decide +kernel
theorem dX12_dancesBy_62 : decode cX12_dancesBy 62 = .ok (.idiv, 1) := by decide +kernel
theorem dX12_dancesBy_63 : decode cX12_dancesBy 63 = .ok (.iadd, 1) := by decide +kernel
theorem dX12_dancesBy_64 : decode cX12_dancesBy 64 = .ok (.iconst 2, 1) := by decide +kernel
theorem dX12_dancesBy_65 : decode cX12_dancesBy 65 = .ok (.idiv, 1) := by decide +kernel
theorem dX12_dancesBy_66 : decode cX12_dancesBy 66 = .ok (.ireturn, 1) := by decide +kernel
theorem dX12_dancesBy_67 : decode cX12_dancesBy 67 = .ok (.iload_n 2, 1) := by decide +kernel
theorem dX12_dancesBy_68 : decode cX12_dancesBy 68 = .ok (.iconst 1, 1) := by decide +kernel
theorem dX12_dancesBy_69 : decode cX12_dancesBy 69 = .ok (.iadd, 1) := by decide +kernel
theorem dX12_dancesBy_70 : decode cX12_dancesBy 70 = .ok (.ireturn, 1) := by decide +kernel
theorem dX12_dancesBy_71 : decode cX12_dancesBy 71 = .ok (.iload_n 2, 1) := by decide +kernel
theorem dX12_dancesBy_72 : decode cX12_dancesBy 72 = .ok (.ireturn, 1) := by decide +kernel
theorem dX12_lighterBy_0 : decode cX12_lighterBy 0 = .ok (.iload_n 0, 1) := by decide +kernel
theorem dX12_lighterBy_1 : decode cX12_lighterBy 1 = .ok (.tableswitch 57 1 7 #[43, 47, 57, 49, 55, 57, 43], 43) := by decide +kernel
theorem dX12_lighterBy_44 : decode cX12_lighterBy 44 = .ok (.iload_n 1, 1) := by decide +kernel
theorem dX12_lighterBy_45 : decode cX12_lighterBy 45 = .ok (.iconst 2, 1) := by decide +kernel
theorem dX12_lighterBy_46 : decode cX12_lighterBy 46 = .ok (.idiv, 1) := by decide +kernel
theorem dX12_lighterBy_47 : decode cX12_lighterBy 47 = .ok (.ireturn, 1) := by decide +kernel
theorem dX12_lighterBy_48 : decode cX12_lighterBy 48 = .ok (.iconst 0, 1) := by decide +kernel
theorem dX12_lighterBy_49 : decode cX12_lighterBy 49 = .ok (.ireturn, 1) := by decide +kernel
theorem dX12_lighterBy_50 : decode cX12_lighterBy 50 = .ok (.iload_n 1, 1) := by decide +kernel
theorem dX12_lighterBy_51 : decode cX12_lighterBy 51 = .ok (.iconst 2, 1) := by decide +kernel
theorem dX12_lighterBy_52 : decode cX12_lighterBy 52 = .ok (.idiv, 1) := by decide +kernel
theorem dX12_lighterBy_53 : decode cX12_lighterBy 53 = .ok (.iconst 1, 1) := by decide +kernel
theorem dX12_lighterBy_54 : decode cX12_lighterBy 54 = .ok (.iadd, 1) := by decide +kernel
theorem dX12_lighterBy_55 : decode cX12_lighterBy 55 = .ok (.ireturn, 1) := by decide +kernel
theorem dX12_lighterBy_56 : decode cX12_lighterBy 56 = .ok (.iconst 3, 1) := by decide +kernel
theorem dX12_lighterBy_57 : decode cX12_lighterBy 57 = .ok (.ireturn, 1) := by decide +kernel
theorem dX12_lighterBy_58 : decode cX12_lighterBy 58 = .ok (.iconst 1, 1) := by decide +kernel
theorem dX12_lighterBy_59 : decode cX12_lighterBy 59 = .ok (.ireturn, 1) := by decide +kernel
theorem dX12_staysBy_0 : decode cX12_staysBy 0 = .ok (.iload_n 0, 1) := by decide +kernel
theorem dX12_staysBy_1 : decode cX12_staysBy 1 = .ok (.iconst 2, 1) := by decide +kernel
theorem dX12_staysBy_2 : decode cX12_staysBy 2 = .ok (.if_icmp .eq 9, 3) := by decide +kernel
theorem dX12_staysBy_5 : decode cX12_staysBy 5 = .ok (.iload_n 0, 1) := by decide +kernel
theorem dX12_staysBy_6 : decode cX12_staysBy 6 = .ok (.bipush 6, 2) := by decide +kernel
theorem dX12_staysBy_8 : decode cX12_staysBy 8 = .ok (.if_icmp .ne 7, 3) := by decide +kernel
theorem dX12_staysBy_11 : decode cX12_staysBy 11 = .ok (.iload_n 1, 1) := by decide +kernel
theorem dX12_staysBy_12 : decode cX12_staysBy 12 = .ok (.goto 14, 3) := by decide +kernel
theorem dX12_staysBy_15 : decode cX12_staysBy 15 = .ok (.iload_n 0, 1) := by decide +kernel
theorem dX12_staysBy_16 : decode cX12_staysBy 16 = .ok (.iconst 4, 1) := by decide +kernel
theorem dX12_staysBy_17 : decode cX12_staysBy 17 = .ok (.if_icmp .ne 8, 3) := by decide +kernel
theorem dX12_staysBy_20 : decode cX12_staysBy 20 = .ok (.bipush 9, 2) := by decide +kernel
theorem dX12_staysBy_22 : decode cX12_staysBy 22 = .ok (.goto 4, 3) := by decide +kernel
theorem dX12_staysBy_25 : decode cX12_staysBy 25 = .ok (.iconst 0, 1) := by decide +kernel
theorem dX12_staysBy_26 : decode cX12_staysBy 26 = .ok (.ireturn, 1) := by decide +kernel
theorem dX12_mayGo_0 : decode cX12_mayGo 0 = .ok (.aload_n 0, 1) := by decide +kernel
theorem dX12_mayGo_1 : decode cX12_mayGo 1 = .ok (.iload_n 1, 1) := by decide +kernel
theorem dX12_mayGo_2 : decode cX12_mayGo 2 = .ok (.invokestatic 61, 3) := by decide +kernel
theorem dX12_mayGo_5 : decode cX12_mayGo 5 = .ok (.ifCond .eq 55, 3) := by decide +kernel
theorem dX12_mayGo_8 : decode cX12_mayGo 8 = .ok (.aload_n 0, 1) := by decide +kernel
theorem dX12_mayGo_9 : decode cX12_mayGo 9 = .ok (.iload_n 1, 1) := by decide +kernel
theorem dX12_mayGo_10 : decode cX12_mayGo 10 = .ok (.iconst 2, 1) := by decide +kernel
theorem dX12_mayGo_11 : decode cX12_mayGo 11 = .ok (.invokestatic 53, 3) := by decide +kernel
theorem dX12_mayGo_14 : decode cX12_mayGo 14 = .ok (.iaload, 1) := by decide +kernel
theorem dX12_mayGo_15 : decode cX12_mayGo 15 = .ok (.aload_n 0, 1) := by decide +kernel
theorem dX12_mayGo_16 : decode cX12_mayGo 16 = .ok (.iload_n 1, 1) := by decide +kernel
theorem dX12_mayGo_17 : decode cX12_mayGo 17 = .ok (.iconst 3, 1) := by decide +kernel
theorem dX12_mayGo_18 : decode cX12_mayGo 18 = .ok (.invokestatic 53, 3) := by decide +kernel
theorem dX12_mayGo_21 : decode cX12_mayGo 21 = .ok (.iaload, 1) := by decide +kernel
theorem dX12_mayGo_22 : decode cX12_mayGo 22 = .ok (.if_icmp .ge 38, 3) := by decide +kernel
theorem dX12_mayGo_25 : decode cX12_mayGo 25 = .ok (.aload_n 0, 1) := by decide +kernel
theorem dX12_mayGo_26 : decode cX12_mayGo 26 = .ok (.iconst 1, 1) := by decide +kernel
theorem dX12_mayGo_27 : decode cX12_mayGo 27 = .ok (.iaload, 1) := by decide +kernel
theorem dX12_mayGo_28 : decode cX12_mayGo 28 = .ok (.aload_n 0, 1) := by decide +kernel
theorem dX12_mayGo_29 : decode cX12_mayGo 29 = .ok (.iload_n 1, 1) := by decide +kernel
theorem dX12_mayGo_30 : decode cX12_mayGo 30 = .ok (.iconst 5, 1) := by decide +kernel
theorem dX12_mayGo_31 : decode cX12_mayGo 31 = .ok (.invokestatic 53, 3) := by decide +kernel
theorem dX12_mayGo_34 : decode cX12_mayGo 34 = .ok (.iaload, 1) := by decide +kernel
theorem dX12_mayGo_35 : decode cX12_mayGo 35 = .ok (.isub, 1) := by decide +kernel
theorem dX12_mayGo_36 : decode cX12_mayGo 36 = .ok (.aload_n 0, 1) := by decide +kernel
theorem dX12_mayGo_37 : decode cX12_mayGo 37 = .ok (.iload_n 1, 1) := by decide +kernel
theorem dX12_mayGo_38 : decode cX12_mayGo 38 = .ok (.iconst 0, 1) := by decide +kernel
theorem dX12_mayGo_39 : decode cX12_mayGo 39 = .ok (.invokestatic 53, 3) := by decide +kernel
theorem dX12_mayGo_42 : decode cX12_mayGo 42 = .ok (.iaload, 1) := by decide +kernel
theorem dX12_mayGo_43 : decode cX12_mayGo 43 = .ok (.aload_n 0, 1) := by decide +kernel
theorem dX12_mayGo_44 : decode cX12_mayGo 44 = .ok (.iload_n 1, 1) := by decide +kernel
theorem dX12_mayGo_45 : decode cX12_mayGo 45 = .ok (.iconst 1, 1) := by decide +kernel
theorem dX12_mayGo_46 : decode cX12_mayGo 46 = .ok (.invokestatic 53, 3) := by decide +kernel
theorem dX12_mayGo_49 : decode cX12_mayGo 49 = .ok (.iaload, 1) := by decide +kernel
theorem dX12_mayGo_50 : decode cX12_mayGo 50 = .ok (.invokestatic 65, 3) := by decide +kernel
theorem dX12_mayGo_53 : decode cX12_mayGo 53 = .ok (.if_icmp .lt 7, 3) := by decide +kernel
theorem dX12_mayGo_56 : decode cX12_mayGo 56 = .ok (.iconst 1, 1) := by decide +kernel
theorem dX12_mayGo_57 : decode cX12_mayGo 57 = .ok (.goto 4, 3) := by decide +kernel
theorem dX12_mayGo_60 : decode cX12_mayGo 60 = .ok (.iconst 0, 1) := by decide +kernel
theorem dX12_mayGo_61 : decode cX12_mayGo 61 = .ok (.ireturn, 1) := by decide +kernel
theorem dX12_lacks_0 : decode cX12_lacks 0 = .ok (.aload_n 0, 1) := by decide +kernel
theorem dX12_lacks_1 : decode cX12_lacks 1 = .ok (.iload_n 1, 1) := by decide +kernel
theorem dX12_lacks_2 : decode cX12_lacks 2 = .ok (.iconst 2, 1) := by decide +kernel
theorem dX12_lacks_3 : decode cX12_lacks 3 = .ok (.invokestatic 53, 3) := by decide +kernel
theorem dX12_lacks_6 : decode cX12_lacks 6 = .ok (.iaload, 1) := by decide +kernel
theorem dX12_lacks_7 : decode cX12_lacks 7 = .ok (.aload_n 0, 1) := by decide +kernel
theorem dX12_lacks_8 : decode cX12_lacks 8 = .ok (.iload_n 1, 1) := by decide +kernel
theorem dX12_lacks_9 : decode cX12_lacks 9 = .ok (.iconst 3, 1) := by decide +kernel
theorem dX12_lacks_10 : decode cX12_lacks 10 = .ok (.invokestatic 53, 3) := by decide +kernel
theorem dX12_lacks_13 : decode cX12_lacks 13 = .ok (.iaload, 1) := by decide +kernel
theorem dX12_lacks_14 : decode cX12_lacks 14 = .ok (.isub, 1) := by decide +kernel
theorem dX12_lacks_15 : decode cX12_lacks 15 = .ok (.iconst 1, 1) := by decide +kernel
theorem dX12_lacks_16 : decode cX12_lacks 16 = .ok (.iadd, 1) := by decide +kernel
theorem dX12_lacks_17 : decode cX12_lacks 17 = .ok (.istore_n 2, 1) := by decide +kernel
theorem dX12_lacks_18 : decode cX12_lacks 18 = .ok (.aload_n 0, 1) := by decide +kernel
theorem dX12_lacks_19 : decode cX12_lacks 19 = .ok (.iload_n 1, 1) := by decide +kernel
theorem dX12_lacks_20 : decode cX12_lacks 20 = .ok (.invokestatic 61, 3) := by decide +kernel
theorem dX12_lacks_23 : decode cX12_lacks 23 = .ok (.ifCond .eq 11, 3) := by decide +kernel
theorem dX12_lacks_26 : decode cX12_lacks 26 = .ok (.iload_n 2, 1) := by decide +kernel
theorem dX12_lacks_27 : decode cX12_lacks 27 = .ok (.ifCond .le 7, 3) := by decide +kernel
theorem dX12_lacks_30 : decode cX12_lacks 30 = .ok (.iload_n 2, 1) := by decide +kernel
theorem dX12_lacks_31 : decode cX12_lacks 31 = .ok (.goto 4, 3) := by decide +kernel
theorem dX12_lacks_34 : decode cX12_lacks 34 = .ok (.iconst 0, 1) := by decide +kernel
theorem dX12_lacks_35 : decode cX12_lacks 35 = .ok (.ireturn, 1) := by decide +kernel
theorem dX12_day_0 : decode cX12_day 0 = .ok (.aload_n 0, 1) := by decide +kernel
theorem dX12_day_1 : decode cX12_day 1 = .ok (.iconst 1, 1) := by decide +kernel
theorem dX12_day_2 : decode cX12_day 2 = .ok (.dup2, 1) := by decide +kernel
theorem dX12_day_3 : decode cX12_day 3 = .ok (.iaload, 1) := by decide +kernel
theorem dX12_day_4 : decode cX12_day 4 = .ok (.iconst 1, 1) := by decide +kernel
theorem dX12_day_5 : decode cX12_day 5 = .ok (.iadd, 1) := by decide +kernel
theorem dX12_day_6 : decode cX12_day 6 = .ok (.iastore, 1) := by decide +kernel
theorem dX12_day_7 : decode cX12_day 7 = .ok (.iconst 0, 1) := by decide +kernel
theorem dX12_day_8 : decode cX12_day 8 = .ok (.istore_n 2, 1) := by decide +kernel
theorem dX12_day_9 : decode cX12_day 9 = .ok (.iload_n 2, 1) := by decide +kernel
theorem dX12_day_10 : decode cX12_day 10 = .ok (.aload_n 0, 1) := by decide +kernel
theorem dX12_day_11 : decode cX12_day 11 = .ok (.iconst 0, 1) := by decide +kernel
theorem dX12_day_12 : decode cX12_day 12 = .ok (.iaload, 1) := by decide +kernel
theorem dX12_day_13 : decode cX12_day 13 = .ok (.if_icmp .ge 97, 3) := by decide +kernel
theorem dX12_day_16 : decode cX12_day 16 = .ok (.aload_n 0, 1) := by decide +kernel
theorem dX12_day_17 : decode cX12_day 17 = .ok (.iload_n 2, 1) := by decide +kernel
theorem dX12_day_18 : decode cX12_day 18 = .ok (.invokestatic 61, 3) := by decide +kernel
theorem dX12_day_21 : decode cX12_day 21 = .ok (.ifCond .ne 6, 3) := by decide +kernel
theorem dX12_day_24 : decode cX12_day 24 = .ok (.goto 80, 3) := by decide +kernel
theorem dX12_day_27 : decode cX12_day 27 = .ok (.aload_n 0, 1) := by decide +kernel
theorem dX12_day_28 : decode cX12_day 28 = .ok (.iload_n 2, 1) := by decide +kernel
theorem dX12_day_29 : decode cX12_day 29 = .ok (.iconst 0, 1) := by decide +kernel
theorem dX12_day_30 : decode cX12_day 30 = .ok (.invokestatic 53, 3) := by decide +kernel
theorem dX12_day_33 : decode cX12_day 33 = .ok (.iaload, 1) := by decide +kernel
theorem dX12_day_34 : decode cX12_day 34 = .ok (.istore_n 3, 1) := by decide +kernel
theorem dX12_day_35 : decode cX12_day 35 = .ok (.aload_n 0, 1) := by decide +kernel
theorem dX12_day_36 : decode cX12_day 36 = .ok (.iload_n 2, 1) := by decide +kernel
theorem dX12_day_37 : decode cX12_day 37 = .ok (.iconst 2, 1) := by decide +kernel
theorem dX12_day_38 : decode cX12_day 38 = .ok (.invokestatic 53, 3) := by decide +kernel
theorem dX12_day_41 : decode cX12_day 41 = .ok (.aload_n 0, 1) := by decide +kernel
theorem dX12_day_42 : decode cX12_day 42 = .ok (.iload_n 2, 1) := by decide +kernel
theorem dX12_day_43 : decode cX12_day 43 = .ok (.iconst 2, 1) := by decide +kernel
theorem dX12_day_44 : decode cX12_day 44 = .ok (.invokestatic 53, 3) := by decide +kernel
theorem dX12_day_47 : decode cX12_day 47 = .ok (.iaload, 1) := by decide +kernel
theorem dX12_day_48 : decode cX12_day 48 = .ok (.iload_n 1, 1) := by decide +kernel
theorem dX12_day_49 : decode cX12_day 49 = .ok (.iload_n 2, 1) := by decide +kernel
theorem dX12_day_50 : decode cX12_day 50 = .ok (.invokestatic 68, 3) := by decide +kernel
theorem dX12_day_53 : decode cX12_day 53 = .ok (.ifCond .eq 7, 3) := by decide +kernel
theorem dX12_day_56 : decode cX12_day 56 = .ok (.iconst 0, 1) := by decide +kernel
theorem dX12_day_57 : decode cX12_day 57 = .ok (.goto 10, 3) := by decide +kernel
theorem dX12_day_60 : decode cX12_day 60 = .ok (.iload_n 3, 1) := by decide +kernel
theorem dX12_day_61 : decode cX12_day 61 = .ok (.aload_n 0, 1) := by decide +kernel
theorem dX12_day_62 : decode cX12_day 62 = .ok (.iconst 3, 1) := by decide +kernel
theorem dX12_day_63 : decode cX12_day 63 = .ok (.iaload, 1) := by decide +kernel
theorem dX12_day_64 : decode cX12_day 64 = .ok (.invokestatic 72, 3) := by decide +kernel
theorem dX12_day_67 : decode cX12_day 67 = .ok (.iadd, 1) := by decide +kernel
theorem dX12_day_68 : decode cX12_day 68 = .ok (.invokestatic 57, 3) := by decide +kernel
theorem dX12_day_71 : decode cX12_day 71 = .ok (.iastore, 1) := by decide +kernel
theorem dX12_day_72 : decode cX12_day 72 = .ok (.aload_n 0, 1) := by decide +kernel
theorem dX12_day_73 : decode cX12_day 73 = .ok (.iload_n 2, 1) := by decide +kernel
theorem dX12_day_74 : decode cX12_day 74 = .ok (.iconst 2, 1) := by decide +kernel
theorem dX12_day_75 : decode cX12_day 75 = .ok (.invokestatic 53, 3) := by decide +kernel
theorem dX12_day_78 : decode cX12_day 78 = .ok (.aload_n 0, 1) := by decide +kernel
theorem dX12_day_79 : decode cX12_day 79 = .ok (.iload_n 2, 1) := by decide +kernel
theorem dX12_day_80 : decode cX12_day 80 = .ok (.iconst 2, 1) := by decide +kernel
theorem dX12_day_81 : decode cX12_day 81 = .ok (.invokestatic 53, 3) := by decide +kernel
theorem dX12_day_84 : decode cX12_day 84 = .ok (.iaload, 1) := by decide +kernel
theorem dX12_day_85 : decode cX12_day 85 = .ok (.iload_n 3, 1) := by decide +kernel
theorem dX12_day_86 : decode cX12_day 86 = .ok (.aload_n 0, 1) := by decide +kernel
theorem dX12_day_87 : decode cX12_day 87 = .ok (.iload_n 2, 1) := by decide +kernel
theorem dX12_day_88 : decode cX12_day 88 = .ok (.iconst 1, 1) := by decide +kernel
theorem dX12_day_89 : decode cX12_day 89 = .ok (.invokestatic 53, 3) := by decide +kernel
theorem dX12_day_92 : decode cX12_day 92 = .ok (.iaload, 1) := by decide +kernel
theorem dX12_day_93 : decode cX12_day 93 = .ok (.aload_n 0, 1) := by decide +kernel
theorem dX12_day_94 : decode cX12_day 94 = .ok (.iconst 4, 1) := by decide +kernel
theorem dX12_day_95 : decode cX12_day 95 = .ok (.iaload, 1) := by decide +kernel
theorem dX12_day_96 : decode cX12_day 96 = .ok (.invokestatic 75, 3) := by decide +kernel
theorem dX12_day_99 : decode cX12_day 99 = .ok (.isub, 1) := by decide +kernel
theorem dX12_day_100 : decode cX12_day 100 = .ok (.invokestatic 57, 3) := by decide +kernel
theorem dX12_day_103 : decode cX12_day 103 = .ok (.iastore, 1) := by decide +kernel
theorem dX12_day_104 : decode cX12_day 104 = .ok (.iinc 2 1, 3) := by decide +kernel
theorem dX12_day_107 : decode cX12_day 107 = .ok (.goto (-98), 3) := by decide +kernel
theorem dX12_day_110 : decode cX12_day 110 = .ok (.iconst 0, 1) := by decide +kernel
theorem dX12_day_111 : decode cX12_day 111 = .ok (.istore_n 2, 1) := by decide +kernel
theorem dX12_day_112 : decode cX12_day 112 = .ok (.iload_n 2, 1) := by decide +kernel
theorem dX12_day_113 : decode cX12_day 113 = .ok (.aload_n 0, 1) := by decide +kernel
theorem dX12_day_114 : decode cX12_day 114 = .ok (.iconst 0, 1) := by decide +kernel
theorem dX12_day_115 : decode cX12_day 115 = .ok (.iaload, 1) := by decide +kernel
theorem dX12_day_116 : decode cX12_day 116 = .ok (.if_icmp .ge 66, 3) := by decide +kernel
theorem dX12_day_119 : decode cX12_day 119 = .ok (.aload_n 0, 1) := by decide +kernel
theorem dX12_day_120 : decode cX12_day 120 = .ok (.iload_n 2, 1) := by decide +kernel
theorem dX12_day_121 : decode cX12_day 121 = .ok (.invokestatic 79, 3) := by decide +kernel
theorem dX12_day_124 : decode cX12_day 124 = .ok (.ifCond .ne 6, 3) := by decide +kernel
theorem dX12_day_127 : decode cX12_day 127 = .ok (.goto 49, 3) := by decide +kernel
theorem dX12_day_130 : decode cX12_day 130 = .ok (.aload_n 0, 1) := by decide +kernel
theorem dX12_day_131 : decode cX12_day 131 = .ok (.iload_n 2, 1) := by decide +kernel
theorem dX12_day_132 : decode cX12_day 132 = .ok (.bipush 6, 2) := by decide +kernel
theorem dX12_day_134 : decode cX12_day 134 = .ok (.invokestatic 53, 3) := by decide +kernel
theorem dX12_day_137 : decode cX12_day 137 = .ok (.iconst 0, 1) := by decide +kernel
theorem dX12_day_138 : decode cX12_day 138 = .ok (.iastore, 1) := by decide +kernel
theorem dX12_day_139 : decode cX12_day 139 = .ok (.aload_n 0, 1) := by decide +kernel
theorem dX12_day_140 : decode cX12_day 140 = .ok (.iconst 2, 1) := by decide +kernel
theorem dX12_day_141 : decode cX12_day 141 = .ok (.iaload, 1) := by decide +kernel
theorem dX12_day_142 : decode cX12_day 142 = .ok (.aload_n 0, 1) := by decide +kernel
theorem dX12_day_143 : decode cX12_day 143 = .ok (.iload_n 2, 1) := by decide +kernel
theorem dX12_day_144 : decode cX12_day 144 = .ok (.iconst 3, 1) := by decide +kernel
theorem dX12_day_145 : decode cX12_day 145 = .ok (.invokestatic 53, 3) := by decide +kernel
theorem dX12_day_148 : decode cX12_day 148 = .ok (.iaload, 1) := by decide +kernel
theorem dX12_day_149 : decode cX12_day 149 = .ok (.iadd, 1) := by decide +kernel
theorem dX12_day_150 : decode cX12_day 150 = .ok (.aload_n 0, 1) := by decide +kernel
theorem dX12_day_151 : decode cX12_day 151 = .ok (.iload_n 2, 1) := by decide +kernel
theorem dX12_day_152 : decode cX12_day 152 = .ok (.iconst 2, 1) := by decide +kernel
theorem dX12_day_153 : decode cX12_day 153 = .ok (.invokestatic 53, 3) := by decide +kernel
theorem dX12_day_156 : decode cX12_day 156 = .ok (.iaload, 1) := by decide +kernel
theorem dX12_day_157 : decode cX12_day 157 = .ok (.isub, 1) := by decide +kernel
theorem dX12_day_158 : decode cX12_day 158 = .ok (.istore_n 3, 1) := by decide +kernel
theorem dX12_day_159 : decode cX12_day 159 = .ok (.aload_n 0, 1) := by decide +kernel
theorem dX12_day_160 : decode cX12_day 160 = .ok (.iconst 2, 1) := by decide +kernel
theorem dX12_day_161 : decode cX12_day 161 = .ok (.iload_n 3, 1) := by decide +kernel
theorem dX12_day_162 : decode cX12_day 162 = .ok (.sipush 9999, 3) := by decide +kernel
theorem dX12_day_165 : decode cX12_day 165 = .ok (.if_icmp .le 9, 3) := by decide +kernel
theorem dX12_day_168 : decode cX12_day 168 = .ok (.sipush 9999, 3) := by decide +kernel
theorem dX12_day_171 : decode cX12_day 171 = .ok (.goto 4, 3) := by decide +kernel
theorem dX12_day_174 : decode cX12_day 174 = .ok (.iload_n 3, 1) := by decide +kernel
theorem dX12_day_175 : decode cX12_day 175 = .ok (.iastore, 1) := by decide +kernel
theorem dX12_day_176 : decode cX12_day 176 = .ok (.iinc 2 1, 3) := by decide +kernel
theorem dX12_day_179 : decode cX12_day 179 = .ok (.goto (-67), 3) := by decide +kernel
theorem dX12_day_182 : decode cX12_day 182 = .ok (.return_, 1) := by decide +kernel
theorem dX12_daysOn_0 : decode cX12_daysOn 0 = .ok (.iconst 0, 1) := by decide +kernel
theorem dX12_daysOn_1 : decode cX12_daysOn 1 = .ok (.istore_n 2, 1) := by decide +kernel
theorem dX12_daysOn_2 : decode cX12_daysOn 2 = .ok (.iload_n 2, 1) := by decide +kernel
theorem dX12_daysOn_3 : decode cX12_daysOn 3 = .ok (.iload_n 1, 1) := by decide +kernel
theorem dX12_daysOn_4 : decode cX12_daysOn 4 = .ok (.if_icmp .ge 14, 3) := by decide +kernel
theorem dX12_daysOn_7 : decode cX12_daysOn 7 = .ok (.aload_n 0, 1) := by decide +kernel
theorem dX12_daysOn_8 : decode cX12_daysOn 8 = .ok (.iconst 0, 1) := by decide +kernel
theorem dX12_daysOn_9 : decode cX12_daysOn 9 = .ok (.invokestatic 82, 3) := by decide +kernel
theorem dX12_daysOn_12 : decode cX12_daysOn 12 = .ok (.iinc 2 1, 3) := by decide +kernel
theorem dX12_daysOn_15 : decode cX12_daysOn 15 = .ok (.goto (-13), 3) := by decide +kernel
theorem dX12_daysOn_18 : decode cX12_daysOn 18 = .ok (.return_, 1) := by decide +kernel
theorem dX12_canTell_0 : decode cX12_canTell 0 = .ok (.aload_n 0, 1) := by decide +kernel
theorem dX12_canTell_1 : decode cX12_canTell 1 = .ok (.iload_n 1, 1) := by decide +kernel
theorem dX12_canTell_2 : decode cX12_canTell 2 = .ok (.invokestatic 61, 3) := by decide +kernel
theorem dX12_canTell_5 : decode cX12_canTell 5 = .ok (.ifCond .eq 17, 3) := by decide +kernel
theorem dX12_canTell_8 : decode cX12_canTell 8 = .ok (.aload_n 0, 1) := by decide +kernel
theorem dX12_canTell_9 : decode cX12_canTell 9 = .ok (.iload_n 1, 1) := by decide +kernel
theorem dX12_canTell_10 : decode cX12_canTell 10 = .ok (.iconst 4, 1) := by decide +kernel
theorem dX12_canTell_11 : decode cX12_canTell 11 = .ok (.invokestatic 53, 3) := by decide +kernel
theorem dX12_canTell_14 : decode cX12_canTell 14 = .ok (.iaload, 1) := by decide +kernel
theorem dX12_canTell_15 : decode cX12_canTell 15 = .ok (.ifCond .le 7, 3) := by decide +kernel
theorem dX12_canTell_18 : decode cX12_canTell 18 = .ok (.iconst 1, 1) := by decide +kernel
theorem dX12_canTell_19 : decode cX12_canTell 19 = .ok (.goto 4, 3) := by decide +kernel
theorem dX12_canTell_22 : decode cX12_canTell 22 = .ok (.iconst 0, 1) := by decide +kernel
theorem dX12_canTell_23 : decode cX12_canTell 23 = .ok (.ireturn, 1) := by decide +kernel
theorem dX12_tellsIn_0 : decode cX12_tellsIn 0 = .ok (.aload_n 0, 1) := by decide +kernel
theorem dX12_tellsIn_1 : decode cX12_tellsIn 1 = .ok (.iload_n 1, 1) := by decide +kernel
theorem dX12_tellsIn_2 : decode cX12_tellsIn 2 = .ok (.iconst 4, 1) := by decide +kernel
theorem dX12_tellsIn_3 : decode cX12_tellsIn 3 = .ok (.invokestatic 53, 3) := by decide +kernel
theorem dX12_tellsIn_6 : decode cX12_tellsIn 6 = .ok (.dup2, 1) := by decide +kernel
theorem dX12_tellsIn_7 : decode cX12_tellsIn 7 = .ok (.iaload, 1) := by decide +kernel
theorem dX12_tellsIn_8 : decode cX12_tellsIn 8 = .ok (.iconst 1, 1) := by decide +kernel
theorem dX12_tellsIn_9 : decode cX12_tellsIn 9 = .ok (.isub, 1) := by decide +kernel
theorem dX12_tellsIn_10 : decode cX12_tellsIn 10 = .ok (.iastore, 1) := by decide +kernel
theorem dX12_tellsIn_11 : decode cX12_tellsIn 11 = .ok (.aload_n 0, 1) := by decide +kernel
theorem dX12_tellsIn_12 : decode cX12_tellsIn 12 = .ok (.iload_n 1, 1) := by decide +kernel
theorem dX12_tellsIn_13 : decode cX12_tellsIn 13 = .ok (.iconst 2, 1) := by decide +kernel
theorem dX12_tellsIn_14 : decode cX12_tellsIn 14 = .ok (.invokestatic 53, 3) := by decide +kernel
theorem dX12_tellsIn_17 : decode cX12_tellsIn 17 = .ok (.aload_n 0, 1) := by decide +kernel
theorem dX12_tellsIn_18 : decode cX12_tellsIn 18 = .ok (.iload_n 1, 1) := by decide +kernel
theorem dX12_tellsIn_19 : decode cX12_tellsIn 19 = .ok (.iconst 2, 1) := by decide +kernel
theorem dX12_tellsIn_20 : decode cX12_tellsIn 20 = .ok (.invokestatic 53, 3) := by decide +kernel
theorem dX12_tellsIn_23 : decode cX12_tellsIn 23 = .ok (.iaload, 1) := by decide +kernel
theorem dX12_tellsIn_24 : decode cX12_tellsIn 24 = .ok (.aload_n 0, 1) := by decide +kernel
theorem dX12_tellsIn_25 : decode cX12_tellsIn 25 = .ok (.iload_n 1, 1) := by decide +kernel
theorem dX12_tellsIn_26 : decode cX12_tellsIn 26 = .ok (.iconst 0, 1) := by decide +kernel
theorem dX12_tellsIn_27 : decode cX12_tellsIn 27 = .ok (.invokestatic 53, 3) := by decide +kernel
theorem dX12_tellsIn_30 : decode cX12_tellsIn 30 = .ok (.iaload, 1) := by decide +kernel
theorem dX12_tellsIn_31 : decode cX12_tellsIn 31 = .ok (.aload_n 0, 1) := by decide +kernel
theorem dX12_tellsIn_32 : decode cX12_tellsIn 32 = .ok (.iload_n 1, 1) := by decide +kernel
theorem dX12_tellsIn_33 : decode cX12_tellsIn 33 = .ok (.iconst 1, 1) := by decide +kernel
theorem dX12_tellsIn_34 : decode cX12_tellsIn 34 = .ok (.invokestatic 53, 3) := by decide +kernel
theorem dX12_tellsIn_37 : decode cX12_tellsIn 37 = .ok (.iaload, 1) := by decide +kernel
theorem dX12_tellsIn_38 : decode cX12_tellsIn 38 = .ok (.invokestatic 86, 3) := by decide +kernel
theorem dX12_tellsIn_41 : decode cX12_tellsIn 41 = .ok (.isub, 1) := by decide +kernel
theorem dX12_tellsIn_42 : decode cX12_tellsIn 42 = .ok (.invokestatic 57, 3) := by decide +kernel
theorem dX12_tellsIn_45 : decode cX12_tellsIn 45 = .ok (.iastore, 1) := by decide +kernel
theorem dX12_tellsIn_46 : decode cX12_tellsIn 46 = .ok (.return_, 1) := by decide +kernel
theorem dX12_canLend_0 : decode cX12_canLend 0 = .ok (.aload_n 0, 1) := by decide +kernel
theorem dX12_canLend_1 : decode cX12_canLend 1 = .ok (.iload_n 1, 1) := by decide +kernel
theorem dX12_canLend_2 : decode cX12_canLend 2 = .ok (.invokestatic 61, 3) := by decide +kernel
theorem dX12_canLend_5 : decode cX12_canLend 5 = .ok (.ifCond .eq 40, 3) := by decide +kernel
theorem dX12_canLend_8 : decode cX12_canLend 8 = .ok (.aload_n 0, 1) := by decide +kernel
theorem dX12_canLend_9 : decode cX12_canLend 9 = .ok (.iload_n 2, 1) := by decide +kernel
theorem dX12_canLend_10 : decode cX12_canLend 10 = .ok (.invokestatic 61, 3) := by decide +kernel
theorem dX12_canLend_13 : decode cX12_canLend 13 = .ok (.ifCond .eq 32, 3) := by decide +kernel
theorem dX12_canLend_16 : decode cX12_canLend 16 = .ok (.aload_n 0, 1) := by decide +kernel
theorem dX12_canLend_17 : decode cX12_canLend 17 = .ok (.iload_n 1, 1) := by decide +kernel
theorem dX12_canLend_18 : decode cX12_canLend 18 = .ok (.iconst 2, 1) := by decide +kernel
theorem dX12_canLend_19 : decode cX12_canLend 19 = .ok (.invokestatic 53, 3) := by decide +kernel
theorem dX12_canLend_22 : decode cX12_canLend 22 = .ok (.iaload, 1) := by decide +kernel
theorem dX12_canLend_23 : decode cX12_canLend 23 = .ok (.iload_n 3, 1) := by decide +kernel
theorem dX12_canLend_24 : decode cX12_canLend 24 = .ok (.if_icmp .lt 21, 3) := by decide +kernel
theorem dX12_canLend_27 : decode cX12_canLend 27 = .ok (.aload_n 0, 1) := by decide +kernel
theorem dX12_canLend_28 : decode cX12_canLend 28 = .ok (.iload_n 2, 1) := by decide +kernel
theorem dX12_canLend_29 : decode cX12_canLend 29 = .ok (.iconst 2, 1) := by decide +kernel
theorem dX12_canLend_30 : decode cX12_canLend 30 = .ok (.invokestatic 53, 3) := by decide +kernel
theorem dX12_canLend_33 : decode cX12_canLend 33 = .ok (.iaload, 1) := by decide +kernel
theorem dX12_canLend_34 : decode cX12_canLend 34 = .ok (.iload_n 3, 1) := by decide +kernel
theorem dX12_canLend_35 : decode cX12_canLend 35 = .ok (.iadd, 1) := by decide +kernel
theorem dX12_canLend_36 : decode cX12_canLend 36 = .ok (.bipush 99, 2) := by decide +kernel
theorem dX12_canLend_38 : decode cX12_canLend 38 = .ok (.if_icmp .gt 7, 3) := by decide +kernel
theorem dX12_canLend_41 : decode cX12_canLend 41 = .ok (.iconst 1, 1) := by decide +kernel
theorem dX12_canLend_42 : decode cX12_canLend 42 = .ok (.goto 4, 3) := by decide +kernel
theorem dX12_canLend_45 : decode cX12_canLend 45 = .ok (.iconst 0, 1) := by decide +kernel
theorem dX12_canLend_46 : decode cX12_canLend 46 = .ok (.ireturn, 1) := by decide +kernel
theorem dX12_lendsIn_0 : decode cX12_lendsIn 0 = .ok (.aload_n 0, 1) := by decide +kernel
theorem dX12_lendsIn_1 : decode cX12_lendsIn 1 = .ok (.iload_n 1, 1) := by decide +kernel
theorem dX12_lendsIn_2 : decode cX12_lendsIn 2 = .ok (.iconst 2, 1) := by decide +kernel
theorem dX12_lendsIn_3 : decode cX12_lendsIn 3 = .ok (.invokestatic 53, 3) := by decide +kernel
theorem dX12_lendsIn_6 : decode cX12_lendsIn 6 = .ok (.dup2, 1) := by decide +kernel
theorem dX12_lendsIn_7 : decode cX12_lendsIn 7 = .ok (.iaload, 1) := by decide +kernel
theorem dX12_lendsIn_8 : decode cX12_lendsIn 8 = .ok (.iload_n 3, 1) := by decide +kernel
theorem dX12_lendsIn_9 : decode cX12_lendsIn 9 = .ok (.isub, 1) := by decide +kernel
theorem dX12_lendsIn_10 : decode cX12_lendsIn 10 = .ok (.iastore, 1) := by decide +kernel
theorem dX12_lendsIn_11 : decode cX12_lendsIn 11 = .ok (.aload_n 0, 1) := by decide +kernel
theorem dX12_lendsIn_12 : decode cX12_lendsIn 12 = .ok (.iload_n 2, 1) := by decide +kernel
theorem dX12_lendsIn_13 : decode cX12_lendsIn 13 = .ok (.iconst 2, 1) := by decide +kernel
theorem dX12_lendsIn_14 : decode cX12_lendsIn 14 = .ok (.invokestatic 53, 3) := by decide +kernel
theorem dX12_lendsIn_17 : decode cX12_lendsIn 17 = .ok (.dup2, 1) := by decide +kernel
theorem dX12_lendsIn_18 : decode cX12_lendsIn 18 = .ok (.iaload, 1) := by decide +kernel
theorem dX12_lendsIn_19 : decode cX12_lendsIn 19 = .ok (.iload_n 3, 1) := by decide +kernel
theorem dX12_lendsIn_20 : decode cX12_lendsIn 20 = .ok (.iadd, 1) := by decide +kernel
theorem dX12_lendsIn_21 : decode cX12_lendsIn 21 = .ok (.iastore, 1) := by decide +kernel
theorem dX12_lendsIn_22 : decode cX12_lendsIn 22 = .ok (.return_, 1) := by decide +kernel
theorem dX12_hereIn_0 : decode cX12_hereIn 0 = .ok (.iconst 0, 1) := by decide +kernel
theorem dX12_hereIn_1 : decode cX12_hereIn 1 = .ok (.istore_n 1, 1) := by decide +kernel
theorem dX12_hereIn_2 : decode cX12_hereIn 2 = .ok (.iconst 0, 1) := by decide +kernel
theorem dX12_hereIn_3 : decode cX12_hereIn 3 = .ok (.istore_n 2, 1) := by decide +kernel
theorem dX12_hereIn_4 : decode cX12_hereIn 4 = .ok (.iload_n 2, 1) := by decide +kernel
theorem dX12_hereIn_5 : decode cX12_hereIn 5 = .ok (.aload_n 0, 1) := by decide +kernel
theorem dX12_hereIn_6 : decode cX12_hereIn 6 = .ok (.iconst 0, 1) := by decide +kernel
theorem dX12_hereIn_7 : decode cX12_hereIn 7 = .ok (.iaload, 1) := by decide +kernel
theorem dX12_hereIn_8 : decode cX12_hereIn 8 = .ok (.if_icmp .ge 22, 3) := by decide +kernel
theorem dX12_hereIn_11 : decode cX12_hereIn 11 = .ok (.iload_n 1, 1) := by decide +kernel
theorem dX12_hereIn_12 : decode cX12_hereIn 12 = .ok (.aload_n 0, 1) := by decide +kernel
theorem dX12_hereIn_13 : decode cX12_hereIn 13 = .ok (.iload_n 2, 1) := by decide +kernel
theorem dX12_hereIn_14 : decode cX12_hereIn 14 = .ok (.bipush 6, 2) := by decide +kernel
theorem dX12_hereIn_16 : decode cX12_hereIn 16 = .ok (.invokestatic 53, 3) := by decide +kernel
theorem dX12_hereIn_19 : decode cX12_hereIn 19 = .ok (.iaload, 1) := by decide +kernel
theorem dX12_hereIn_20 : decode cX12_hereIn 20 = .ok (.iload_n 2, 1) := by decide +kernel
theorem dX12_hereIn_21 : decode cX12_hereIn 21 = .ok (.ishl, 1) := by decide +kernel
theorem dX12_hereIn_22 : decode cX12_hereIn 22 = .ok (.ior, 1) := by decide +kernel
theorem dX12_hereIn_23 : decode cX12_hereIn 23 = .ok (.istore_n 1, 1) := by decide +kernel
theorem dX12_hereIn_24 : decode cX12_hereIn 24 = .ok (.iinc 2 1, 3) := by decide +kernel
theorem dX12_hereIn_27 : decode cX12_hereIn 27 = .ok (.goto (-23), 3) := by decide +kernel
theorem dX12_hereIn_30 : decode cX12_hereIn 30 = .ok (.iload_n 1, 1) := by decide +kernel
theorem dX12_hereIn_31 : decode cX12_hereIn 31 = .ok (.ireturn, 1) := by decide +kernel
theorem dX12_weightIn_0 : decode cX12_weightIn 0 = .ok (.iconst 0, 1) := by decide +kernel
theorem dX12_weightIn_1 : decode cX12_weightIn 1 = .ok (.istore_n 1, 1) := by decide +kernel
theorem dX12_weightIn_2 : decode cX12_weightIn 2 = .ok (.iconst 0, 1) := by decide +kernel
theorem dX12_weightIn_3 : decode cX12_weightIn 3 = .ok (.istore_n 2, 1) := by decide +kernel
theorem dX12_weightIn_4 : decode cX12_weightIn 4 = .ok (.iload_n 2, 1) := by decide +kernel
theorem dX12_weightIn_5 : decode cX12_weightIn 5 = .ok (.aload_n 0, 1) := by decide +kernel
theorem dX12_weightIn_6 : decode cX12_weightIn 6 = .ok (.iconst 0, 1) := by decide +kernel
theorem dX12_weightIn_7 : decode cX12_weightIn 7 = .ok (.iaload, 1) := by decide +kernel
theorem dX12_weightIn_8 : decode cX12_weightIn 8 = .ok (.if_icmp .ge 31, 3) := by decide +kernel
theorem dX12_weightIn_11 : decode cX12_weightIn 11 = .ok (.iload_n 1, 1) := by decide +kernel
theorem dX12_weightIn_12 : decode cX12_weightIn 12 = .ok (.aload_n 0, 1) := by decide +kernel
theorem dX12_weightIn_13 : decode cX12_weightIn 13 = .ok (.iload_n 2, 1) := by decide +kernel
theorem dX12_weightIn_14 : decode cX12_weightIn 14 = .ok (.invokestatic 61, 3) := by decide +kernel
theorem dX12_weightIn_17 : decode cX12_weightIn 17 = .ok (.ifCond .eq 13, 3) := by decide +kernel
theorem dX12_weightIn_20 : decode cX12_weightIn 20 = .ok (.aload_n 0, 1) := by decide +kernel
theorem dX12_weightIn_21 : decode cX12_weightIn 21 = .ok (.iload_n 2, 1) := by decide +kernel
theorem dX12_weightIn_22 : decode cX12_weightIn 22 = .ok (.iconst 2, 1) := by decide +kernel
theorem dX12_weightIn_23 : decode cX12_weightIn 23 = .ok (.invokestatic 53, 3) := by decide +kernel
theorem dX12_weightIn_26 : decode cX12_weightIn 26 = .ok (.iaload, 1) := by decide +kernel
theorem dX12_weightIn_27 : decode cX12_weightIn 27 = .ok (.goto 4, 3) := by decide +kernel
theorem dX12_weightIn_30 : decode cX12_weightIn 30 = .ok (.iconst 0, 1) := by decide +kernel
theorem dX12_weightIn_31 : decode cX12_weightIn 31 = .ok (.iadd, 1) := by decide +kernel
theorem dX12_weightIn_32 : decode cX12_weightIn 32 = .ok (.istore_n 1, 1) := by decide +kernel
theorem dX12_weightIn_33 : decode cX12_weightIn 33 = .ok (.iinc 2 1, 3) := by decide +kernel
theorem dX12_weightIn_36 : decode cX12_weightIn 36 = .ok (.goto (-32), 3) := by decide +kernel
theorem dX12_weightIn_39 : decode cX12_weightIn 39 = .ok (.iload_n 1, 1) := by decide +kernel
theorem dX12_weightIn_40 : decode cX12_weightIn 40 = .ok (.ireturn, 1) := by decide +kernel
theorem dX12_here_0 : decode cX12_here 0 = .ok (.aload_n 0, 1) := by decide +kernel
theorem dX12_here_1 : decode cX12_here 1 = .ok (.getfield 89, 3) := by decide +kernel
theorem dX12_here_4 : decode cX12_here 4 = .ok (.aload_n 0, 1) := by decide +kernel
theorem dX12_here_5 : decode cX12_here 5 = .ok (.getfield 93, 3) := by decide +kernel
theorem dX12_here_8 : decode cX12_here 8 = .ok (.if_icmp .ge 24, 3) := by decide +kernel
theorem dX12_here_11 : decode cX12_here 11 = .ok (.aload_n 0, 1) := by decide +kernel
theorem dX12_here_12 : decode cX12_here 12 = .ok (.getfield 46, 3) := by decide +kernel
theorem dX12_here_15 : decode cX12_here 15 = .ok (.aload_n 0, 1) := by decide +kernel
theorem dX12_here_16 : decode cX12_here 16 = .ok (.getfield 96, 3) := by decide +kernel
theorem dX12_here_19 : decode cX12_here 19 = .ok (.aload_n 0, 1) := by decide +kernel
theorem dX12_here_20 : decode cX12_here 20 = .ok (.getfield 89, 3) := by decide +kernel
theorem dX12_here_23 : decode cX12_here 23 = .ok (.iadd, 1) := by decide +kernel
theorem dX12_here_24 : decode cX12_here 24 = .ok (.iaload, 1) := by decide +kernel
theorem dX12_here_25 : decode cX12_here 25 = .ok (.sipush 255, 3) := by decide +kernel
theorem dX12_here_28 : decode cX12_here 28 = .ok (.iand, 1) := by decide +kernel
theorem dX12_here_29 : decode cX12_here 29 = .ok (.goto 4, 3) := by decide +kernel
theorem dX12_here_32 : decode cX12_here 32 = .ok (.iconst (-1), 1) := by decide +kernel
theorem dX12_here_33 : decode cX12_here 33 = .ok (.ireturn, 1) := by decide +kernel
theorem dX12_readsNumber_0 : decode cX12_readsNumber 0 = .ok (.aload_n 0, 1) := by decide +kernel
theorem dX12_readsNumber_1 : decode cX12_readsNumber 1 = .ok (.getfield 22, 3) := by decide +kernel
theorem dX12_readsNumber_4 : decode cX12_readsNumber 4 = .ok (.iload_n 1, 1) := by decide +kernel
theorem dX12_readsNumber_5 : decode cX12_readsNumber 5 = .ok (.iconst 0, 1) := by decide +kernel
theorem dX12_readsNumber_6 : decode cX12_readsNumber 6 = .ok (.iastore, 1) := by decide +kernel
theorem dX12_readsNumber_7 : decode cX12_readsNumber 7 = .ok (.iconst 0, 1) := by decide +kernel
theorem dX12_readsNumber_8 : decode cX12_readsNumber 8 = .ok (.istore_n 3, 1) := by decide +kernel
theorem dX12_readsNumber_9 : decode cX12_readsNumber 9 = .ok (.iload_n 3, 1) := by decide +kernel
theorem dX12_readsNumber_10 : decode cX12_readsNumber 10 = .ok (.iload_n 2, 1) := by decide +kernel
theorem dX12_readsNumber_11 : decode cX12_readsNumber 11 = .ok (.if_icmp .ge 58, 3) := by decide +kernel
theorem dX12_readsNumber_14 : decode cX12_readsNumber 14 = .ok (.aload_n 0, 1) := by decide +kernel
theorem dX12_readsNumber_15 : decode cX12_readsNumber 15 = .ok (.invokevirtual 99, 3) := by decide +kernel
theorem dX12_readsNumber_18 : decode cX12_readsNumber 18 = .ok (.bipush 48, 2) := by decide +kernel
theorem dX12_readsNumber_20 : decode cX12_readsNumber 20 = .ok (.bipush 57, 2) := by decide +kernel
theorem dX12_readsNumber_22 : decode cX12_readsNumber 22 = .ok (.invokestatic 49, 3) := by decide +kernel
theorem dX12_readsNumber_25 : decode cX12_readsNumber 25 = .ok (.ifCond .ne 5, 3) := by decide +kernel
theorem dX12_readsNumber_28 : decode cX12_readsNumber 28 = .ok (.iconst 0, 1) := by decide +kernel
theorem dX12_readsNumber_29 : decode cX12_readsNumber 29 = .ok (.ireturn, 1) := by decide +kernel
theorem dX12_readsNumber_30 : decode cX12_readsNumber 30 = .ok (.aload_n 0, 1) := by decide +kernel
theorem dX12_readsNumber_31 : decode cX12_readsNumber 31 = .ok (.getfield 22, 3) := by decide +kernel
theorem dX12_readsNumber_34 : decode cX12_readsNumber 34 = .ok (.iload_n 1, 1) := by decide +kernel
theorem dX12_readsNumber_35 : decode cX12_readsNumber 35 = .ok (.bipush 10, 2) := by decide +kernel
theorem dX12_readsNumber_37 : decode cX12_readsNumber 37 = .ok (.aload_n 0, 1) := by decide +kernel
theorem dX12_readsNumber_38 : decode cX12_readsNumber 38 = .ok (.getfield 22, 3) := by decide +kernel
theorem dX12_readsNumber_41 : decode cX12_readsNumber 41 = .ok (.iload_n 1, 1) := by decide +kernel
theorem dX12_readsNumber_42 : decode cX12_readsNumber 42 = .ok (.iaload, 1) := by decide +kernel
theorem dX12_readsNumber_43 : decode cX12_readsNumber 43 = .ok (.imul, 1) := by decide +kernel
theorem dX12_readsNumber_44 : decode cX12_readsNumber 44 = .ok (.aload_n 0, 1) := by decide +kernel
theorem dX12_readsNumber_45 : decode cX12_readsNumber 45 = .ok (.invokevirtual 99, 3) := by decide +kernel
theorem dX12_readsNumber_48 : decode cX12_readsNumber 48 = .ok (.iadd, 1) := by decide +kernel
theorem dX12_readsNumber_49 : decode cX12_readsNumber 49 = .ok (.bipush 48, 2) := by decide +kernel
theorem dX12_readsNumber_51 : decode cX12_readsNumber 51 = .ok (.isub, 1) := by decide +kernel
theorem dX12_readsNumber_52 : decode cX12_readsNumber 52 = .ok (.iastore, 1) := by decide +kernel
theorem dX12_readsNumber_53 : decode cX12_readsNumber 53 = .ok (.aload_n 0, 1) := by decide +kernel
theorem dX12_readsNumber_54 : decode cX12_readsNumber 54 = .ok (.dup, 1) := by decide +kernel
theorem dX12_readsNumber_55 : decode cX12_readsNumber 55 = .ok (.getfield 89, 3) := by decide +kernel
theorem dX12_readsNumber_58 : decode cX12_readsNumber 58 = .ok (.iconst 1, 1) := by decide +kernel
theorem dX12_readsNumber_59 : decode cX12_readsNumber 59 = .ok (.iadd, 1) := by decide +kernel
theorem dX12_readsNumber_60 : decode cX12_readsNumber 60 = .ok (.putfield 89, 3) := by decide +kernel
theorem dX12_readsNumber_63 : decode cX12_readsNumber 63 = .ok (.iinc 3 1, 3) := by decide +kernel
theorem dX12_readsNumber_66 : decode cX12_readsNumber 66 = .ok (.goto (-57), 3) := by decide +kernel
theorem dX12_readsNumber_69 : decode cX12_readsNumber 69 = .ok (.iconst 1, 1) := by decide +kernel
theorem dX12_readsNumber_70 : decode cX12_readsNumber 70 = .ok (.ireturn, 1) := by decide +kernel
theorem dX12_readsStatement_0 : decode cX12_readsStatement 0 = .ok (.aload_n 0, 1) := by decide +kernel
theorem dX12_readsStatement_1 : decode cX12_readsStatement 1 = .ok (.invokevirtual 99, 3) := by decide +kernel
theorem dX12_readsStatement_4 : decode cX12_readsStatement 4 = .ok (.istore_n 1, 1) := by decide +kernel
theorem dX12_readsStatement_5 : decode cX12_readsStatement 5 = .ok (.aload_n 0, 1) := by decide +kernel
theorem dX12_readsStatement_6 : decode cX12_readsStatement 6 = .ok (.dup, 1) := by decide +kernel
theorem dX12_readsStatement_7 : decode cX12_readsStatement 7 = .ok (.getfield 89, 3) := by decide +kernel
theorem dX12_readsStatement_10 : decode cX12_readsStatement 10 = .ok (.iconst 1, 1) := by decide +kernel
theorem dX12_readsStatement_11 : decode cX12_readsStatement 11 = .ok (.iadd, 1) := by decide +kernel
theorem dX12_readsStatement_12 : decode cX12_readsStatement 12 = .ok (.putfield 89, 3) := by decide +kernel
theorem dX12_readsStatement_15 : decode cX12_readsStatement 15 = .ok (.iload_n 1, 1) := by decide +kernel
theorem dX12_readsStatement_16 : decode cX12_readsStatement 16 = .ok (.tableswitch 175 98 116 #[128, 175, 165, 175, 175, 92, 175, 175, 175, 175, 92, 175, 175, 175, 175, 175, 175, 128, 155], 92) := by decide +kernel
theorem dX12_readsStatement_108 : decode cX12_readsStatement 108 = .ok (.aload_n 0, 1) := by decide +kernel
theorem dX12_readsStatement_109 : decode cX12_readsStatement 109 = .ok (.iconst 0, 1) := by decide +kernel
theorem dX12_readsStatement_110 : decode cX12_readsStatement 110 = .ok (.iconst 1, 1) := by decide +kernel
theorem dX12_readsStatement_111 : decode cX12_readsStatement 111 = .ok (.invokevirtual 103, 3) := by decide +kernel
theorem dX12_readsStatement_114 : decode cX12_readsStatement 114 = .ok (.ifCond .eq 25, 3) := by decide +kernel
theorem dX12_readsStatement_117 : decode cX12_readsStatement 117 = .ok (.aload_n 0, 1) := by decide +kernel
theorem dX12_readsStatement_118 : decode cX12_readsStatement 118 = .ok (.iconst 1, 1) := by decide +kernel
theorem dX12_readsStatement_119 : decode cX12_readsStatement 119 = .ok (.iconst 1, 1) := by decide +kernel
theorem dX12_readsStatement_120 : decode cX12_readsStatement 120 = .ok (.invokevirtual 103, 3) := by decide +kernel
theorem dX12_readsStatement_123 : decode cX12_readsStatement 123 = .ok (.ifCond .eq 16, 3) := by decide +kernel
theorem dX12_readsStatement_126 : decode cX12_readsStatement 126 = .ok (.aload_n 0, 1) := by decide +kernel
theorem dX12_readsStatement_127 : decode cX12_readsStatement 127 = .ok (.iconst 2, 1) := by decide +kernel
theorem dX12_readsStatement_128 : decode cX12_readsStatement 128 = .ok (.iconst 2, 1) := by decide +kernel
theorem dX12_readsStatement_129 : decode cX12_readsStatement 129 = .ok (.invokevirtual 103, 3) := by decide +kernel
theorem dX12_readsStatement_132 : decode cX12_readsStatement 132 = .ok (.ifCond .eq 7, 3) := by decide +kernel
theorem dX12_readsStatement_135 : decode cX12_readsStatement 135 = .ok (.iconst 1, 1) := by decide +kernel
theorem dX12_readsStatement_136 : decode cX12_readsStatement 136 = .ok (.goto 4, 3) := by decide +kernel
theorem dX12_readsStatement_139 : decode cX12_readsStatement 139 = .ok (.iconst 0, 1) := by decide +kernel
theorem dX12_readsStatement_140 : decode cX12_readsStatement 140 = .ok (.istore_n 2, 1) := by decide +kernel
theorem dX12_readsStatement_141 : decode cX12_readsStatement 141 = .ok (.goto 62, 3) := by decide +kernel
theorem dX12_readsStatement_144 : decode cX12_readsStatement 144 = .ok (.aload_n 0, 1) := by decide +kernel
theorem dX12_readsStatement_145 : decode cX12_readsStatement 145 = .ok (.iconst 0, 1) := by decide +kernel
theorem dX12_readsStatement_146 : decode cX12_readsStatement 146 = .ok (.iconst 1, 1) := by decide +kernel
theorem dX12_readsStatement_147 : decode cX12_readsStatement 147 = .ok (.invokevirtual 103, 3) := by decide +kernel
theorem dX12_readsStatement_150 : decode cX12_readsStatement 150 = .ok (.ifCond .eq 16, 3) := by decide +kernel
theorem dX12_readsStatement_153 : decode cX12_readsStatement 153 = .ok (.aload_n 0, 1) := by decide +kernel
theorem dX12_readsStatement_154 : decode cX12_readsStatement 154 = .ok (.iconst 1, 1) := by decide +kernel
theorem dX12_readsStatement_155 : decode cX12_readsStatement 155 = .ok (.iconst 1, 1) := by decide +kernel
theorem dX12_readsStatement_156 : decode cX12_readsStatement 156 = .ok (.invokevirtual 103, 3) := by decide +kernel
theorem dX12_readsStatement_159 : decode cX12_readsStatement 159 = .ok (.ifCond .eq 7, 3) := by decide +kernel
theorem dX12_readsStatement_162 : decode cX12_readsStatement 162 = .ok (.iconst 1, 1) := by decide +kernel
theorem dX12_readsStatement_163 : decode cX12_readsStatement 163 = .ok (.goto 4, 3) := by decide +kernel
theorem dX12_readsStatement_166 : decode cX12_readsStatement 166 = .ok (.iconst 0, 1) := by decide +kernel
theorem dX12_readsStatement_167 : decode cX12_readsStatement 167 = .ok (.istore_n 2, 1) := by decide +kernel
theorem dX12_readsStatement_168 : decode cX12_readsStatement 168 = .ok (.goto 35, 3) := by decide +kernel
theorem dX12_readsStatement_171 : decode cX12_readsStatement 171 = .ok (.aload_n 0, 1) := by decide +kernel
theorem dX12_readsStatement_172 : decode cX12_readsStatement 172 = .ok (.iconst 0, 1) := by decide +kernel
theorem dX12_readsStatement_173 : decode cX12_readsStatement 173 = .ok (.iconst 1, 1) := by decide +kernel
theorem dX12_readsStatement_174 : decode cX12_readsStatement 174 = .ok (.invokevirtual 103, 3) := by decide +kernel
theorem dX12_readsStatement_177 : decode cX12_readsStatement 177 = .ok (.istore_n 2, 1) := by decide +kernel
theorem dX12_readsStatement_178 : decode cX12_readsStatement 178 = .ok (.goto 25, 3) := by decide +kernel
theorem dX12_readsStatement_181 : decode cX12_readsStatement 181 = .ok (.aload_n 0, 1) := by decide +kernel
theorem dX12_readsStatement_182 : decode cX12_readsStatement 182 = .ok (.iconst 0, 1) := by decide +kernel
theorem dX12_readsStatement_183 : decode cX12_readsStatement 183 = .ok (.iconst 2, 1) := by decide +kernel
theorem dX12_readsStatement_184 : decode cX12_readsStatement 184 = .ok (.invokevirtual 103, 3) := by decide +kernel
theorem dX12_readsStatement_187 : decode cX12_readsStatement 187 = .ok (.istore_n 2, 1) := by decide +kernel
theorem dX12_readsStatement_188 : decode cX12_readsStatement 188 = .ok (.goto 15, 3) := by decide +kernel
theorem dX12_readsStatement_191 : decode cX12_readsStatement 191 = .ok (.aload_n 0, 1) := by decide +kernel
theorem dX12_readsStatement_192 : decode cX12_readsStatement 192 = .ok (.dup, 1) := by decide +kernel
theorem dX12_readsStatement_193 : decode cX12_readsStatement 193 = .ok (.getfield 89, 3) := by decide +kernel
theorem dX12_readsStatement_196 : decode cX12_readsStatement 196 = .ok (.iconst 1, 1) := by decide +kernel
theorem dX12_readsStatement_197 : decode cX12_readsStatement 197 = .ok (.isub, 1) := by decide +kernel
theorem dX12_readsStatement_198 : decode cX12_readsStatement 198 = .ok (.putfield 89, 3) := by decide +kernel
theorem dX12_readsStatement_201 : decode cX12_readsStatement 201 = .ok (.iconst 0, 1) := by decide +kernel
theorem dX12_readsStatement_202 : decode cX12_readsStatement 202 = .ok (.ireturn, 1) := by decide +kernel
theorem dX12_readsStatement_203 : decode cX12_readsStatement 203 = .ok (.iload_n 2, 1) := by decide +kernel
theorem dX12_readsStatement_204 : decode cX12_readsStatement 204 = .ok (.ifCond .eq 12, 3) := by decide +kernel
theorem dX12_readsStatement_207 : decode cX12_readsStatement 207 = .ok (.aload_n 0, 1) := by decide +kernel
theorem dX12_readsStatement_208 : decode cX12_readsStatement 208 = .ok (.invokevirtual 99, 3) := by decide +kernel
theorem dX12_readsStatement_211 : decode cX12_readsStatement 211 = .ok (.bipush 59, 2) := by decide +kernel
theorem dX12_readsStatement_213 : decode cX12_readsStatement 213 = .ok (.if_icmp .eq 5, 3) := by decide +kernel
theorem dX12_readsStatement_216 : decode cX12_readsStatement 216 = .ok (.iconst 0, 1) := by decide +kernel
theorem dX12_readsStatement_217 : decode cX12_readsStatement 217 = .ok (.ireturn, 1) := by decide +kernel
theorem dX12_readsStatement_218 : decode cX12_readsStatement 218 = .ok (.aload_n 0, 1) := by decide +kernel
theorem dX12_readsStatement_219 : decode cX12_readsStatement 219 = .ok (.dup, 1) := by decide +kernel
theorem dX12_readsStatement_220 : decode cX12_readsStatement 220 = .ok (.getfield 89, 3) := by decide +kernel
theorem dX12_readsStatement_223 : decode cX12_readsStatement 223 = .ok (.iconst 1, 1) := by decide +kernel
theorem dX12_readsStatement_224 : decode cX12_readsStatement 224 = .ok (.iadd, 1) := by decide +kernel
theorem dX12_readsStatement_225 : decode cX12_readsStatement 225 = .ok (.putfield 89, 3) := by decide +kernel
theorem dX12_readsStatement_228 : decode cX12_readsStatement 228 = .ok (.iconst 1, 1) := by decide +kernel
theorem dX12_readsStatement_229 : decode cX12_readsStatement 229 = .ok (.ireturn, 1) := by decide +kernel
theorem dX12_adds_0 : decode cX12_adds 0 = .ok (.aload_n 0, 1) := by decide +kernel
theorem dX12_adds_1 : decode cX12_adds 1 = .ok (.getfield 9, 3) := by decide +kernel
theorem dX12_adds_4 : decode cX12_adds 4 = .ok (.iconst 0, 1) := by decide +kernel
theorem dX12_adds_5 : decode cX12_adds 5 = .ok (.iaload, 1) := by decide +kernel
theorem dX12_adds_6 : decode cX12_adds 6 = .ok (.istore 4, 2) := by decide +kernel
theorem dX12_adds_8 : decode cX12_adds 8 = .ok (.aload_n 0, 1) := by decide +kernel
theorem dX12_adds_9 : decode cX12_adds 9 = .ok (.getfield 9, 3) := by decide +kernel
theorem dX12_adds_12 : decode cX12_adds 12 = .ok (.iload 4, 2) := by decide +kernel
theorem dX12_adds_14 : decode cX12_adds 14 = .ok (.iconst 0, 1) := by decide +kernel
theorem dX12_adds_15 : decode cX12_adds 15 = .ok (.invokestatic 53, 3) := by decide +kernel
theorem dX12_adds_18 : decode cX12_adds 18 = .ok (.iload_n 1, 1) := by decide +kernel
theorem dX12_adds_19 : decode cX12_adds 19 = .ok (.iastore, 1) := by decide +kernel
theorem dX12_adds_20 : decode cX12_adds 20 = .ok (.aload_n 0, 1) := by decide +kernel
theorem dX12_adds_21 : decode cX12_adds 21 = .ok (.getfield 9, 3) := by decide +kernel
theorem dX12_adds_24 : decode cX12_adds 24 = .ok (.iload 4, 2) := by decide +kernel
theorem dX12_adds_26 : decode cX12_adds 26 = .ok (.iconst 1, 1) := by decide +kernel
theorem dX12_adds_27 : decode cX12_adds 27 = .ok (.invokestatic 53, 3) := by decide +kernel
theorem dX12_adds_30 : decode cX12_adds 30 = .ok (.iload_n 2, 1) := by decide +kernel
theorem dX12_adds_31 : decode cX12_adds 31 = .ok (.iastore, 1) := by decide +kernel
theorem dX12_adds_32 : decode cX12_adds 32 = .ok (.aload_n 0, 1) := by decide +kernel
theorem dX12_adds_33 : decode cX12_adds 33 = .ok (.getfield 9, 3) := by decide +kernel
theorem dX12_adds_36 : decode cX12_adds 36 = .ok (.iload 4, 2) := by decide +kernel
theorem dX12_adds_38 : decode cX12_adds 38 = .ok (.iconst 2, 1) := by decide +kernel
theorem dX12_adds_39 : decode cX12_adds 39 = .ok (.invokestatic 53, 3) := by decide +kernel
theorem dX12_adds_42 : decode cX12_adds 42 = .ok (.iload_n 3, 1) := by decide +kernel
theorem dX12_adds_43 : decode cX12_adds 43 = .ok (.iastore, 1) := by decide +kernel
theorem dX12_adds_44 : decode cX12_adds 44 = .ok (.aload_n 0, 1) := by decide +kernel
theorem dX12_adds_45 : decode cX12_adds 45 = .ok (.getfield 9, 3) := by decide +kernel
theorem dX12_adds_48 : decode cX12_adds 48 = .ok (.iload 4, 2) := by decide +kernel
theorem dX12_adds_50 : decode cX12_adds 50 = .ok (.iconst 3, 1) := by decide +kernel
theorem dX12_adds_51 : decode cX12_adds 51 = .ok (.invokestatic 53, 3) := by decide +kernel
theorem dX12_adds_54 : decode cX12_adds 54 = .ok (.iload_n 3, 1) := by decide +kernel
theorem dX12_adds_55 : decode cX12_adds 55 = .ok (.iload_n 1, 1) := by decide +kernel
theorem dX12_adds_56 : decode cX12_adds 56 = .ok (.iload_n 2, 1) := by decide +kernel
theorem dX12_adds_57 : decode cX12_adds 57 = .ok (.invokestatic 106, 3) := by decide +kernel
theorem dX12_adds_60 : decode cX12_adds 60 = .ok (.iadd, 1) := by decide +kernel
theorem dX12_adds_61 : decode cX12_adds 61 = .ok (.iastore, 1) := by decide +kernel
theorem dX12_adds_62 : decode cX12_adds 62 = .ok (.aload_n 0, 1) := by decide +kernel
theorem dX12_adds_63 : decode cX12_adds 63 = .ok (.getfield 9, 3) := by decide +kernel
theorem dX12_adds_66 : decode cX12_adds 66 = .ok (.iload 4, 2) := by decide +kernel
theorem dX12_adds_68 : decode cX12_adds 68 = .ok (.iconst 4, 1) := by decide +kernel
theorem dX12_adds_69 : decode cX12_adds 69 = .ok (.invokestatic 53, 3) := by decide +kernel
theorem dX12_adds_72 : decode cX12_adds 72 = .ok (.iconst 3, 1) := by decide +kernel
theorem dX12_adds_73 : decode cX12_adds 73 = .ok (.iastore, 1) := by decide +kernel
theorem dX12_adds_74 : decode cX12_adds 74 = .ok (.aload_n 0, 1) := by decide +kernel
theorem dX12_adds_75 : decode cX12_adds 75 = .ok (.getfield 9, 3) := by decide +kernel
theorem dX12_adds_78 : decode cX12_adds 78 = .ok (.iload 4, 2) := by decide +kernel
theorem dX12_adds_80 : decode cX12_adds 80 = .ok (.iconst 5, 1) := by decide +kernel
theorem dX12_adds_81 : decode cX12_adds 81 = .ok (.invokestatic 53, 3) := by decide +kernel
theorem dX12_adds_84 : decode cX12_adds 84 = .ok (.aload_n 0, 1) := by decide +kernel
theorem dX12_adds_85 : decode cX12_adds 85 = .ok (.getfield 9, 3) := by decide +kernel
theorem dX12_adds_88 : decode cX12_adds 88 = .ok (.iconst 1, 1) := by decide +kernel
theorem dX12_adds_89 : decode cX12_adds 89 = .ok (.iaload, 1) := by decide +kernel
theorem dX12_adds_90 : decode cX12_adds 90 = .ok (.iastore, 1) := by decide +kernel
theorem dX12_adds_91 : decode cX12_adds 91 = .ok (.aload_n 0, 1) := by decide +kernel
theorem dX12_adds_92 : decode cX12_adds 92 = .ok (.getfield 9, 3) := by decide +kernel
theorem dX12_adds_95 : decode cX12_adds 95 = .ok (.iload 4, 2) := by decide +kernel
theorem dX12_adds_97 : decode cX12_adds 97 = .ok (.bipush 6, 2) := by decide +kernel
theorem dX12_adds_99 : decode cX12_adds 99 = .ok (.invokestatic 53, 3) := by decide +kernel
theorem dX12_adds_102 : decode cX12_adds 102 = .ok (.iconst 1, 1) := by decide +kernel
theorem dX12_adds_103 : decode cX12_adds 103 = .ok (.iastore, 1) := by decide +kernel
theorem dX12_adds_104 : decode cX12_adds 104 = .ok (.aload_n 0, 1) := by decide +kernel
theorem dX12_adds_105 : decode cX12_adds 105 = .ok (.getfield 9, 3) := by decide +kernel
theorem dX12_adds_108 : decode cX12_adds 108 = .ok (.iconst 0, 1) := by decide +kernel
theorem dX12_adds_109 : decode cX12_adds 109 = .ok (.dup2, 1) := by decide +kernel
theorem dX12_adds_110 : decode cX12_adds 110 = .ok (.iaload, 1) := by decide +kernel
theorem dX12_adds_111 : decode cX12_adds 111 = .ok (.iconst 1, 1) := by decide +kernel
theorem dX12_adds_112 : decode cX12_adds 112 = .ok (.iadd, 1) := by decide +kernel
theorem dX12_adds_113 : decode cX12_adds 113 = .ok (.iastore, 1) := by decide +kernel
theorem dX12_adds_114 : decode cX12_adds 114 = .ok (.return_, 1) := by decide +kernel
theorem dX12_isDone_0 : decode cX12_isDone 0 = .ok (.aload_n 0, 1) := by decide +kernel
theorem dX12_isDone_1 : decode cX12_isDone 1 = .ok (.getfield 22, 3) := by decide +kernel
theorem dX12_isDone_4 : decode cX12_isDone 4 = .ok (.iconst 0, 1) := by decide +kernel
theorem dX12_isDone_5 : decode cX12_isDone 5 = .ok (.iaload, 1) := by decide +kernel
theorem dX12_isDone_6 : decode cX12_isDone 6 = .ok (.istore_n 2, 1) := by decide +kernel
theorem dX12_isDone_7 : decode cX12_isDone 7 = .ok (.aload_n 0, 1) := by decide +kernel
theorem dX12_isDone_8 : decode cX12_isDone 8 = .ok (.getfield 22, 3) := by decide +kernel
theorem dX12_isDone_11 : decode cX12_isDone 11 = .ok (.iconst 1, 1) := by decide +kernel
theorem dX12_isDone_12 : decode cX12_isDone 12 = .ok (.iaload, 1) := by decide +kernel
theorem dX12_isDone_13 : decode cX12_isDone 13 = .ok (.istore_n 3, 1) := by decide +kernel
theorem dX12_isDone_14 : decode cX12_isDone 14 = .ok (.aload_n 0, 1) := by decide +kernel
theorem dX12_isDone_15 : decode cX12_isDone 15 = .ok (.getfield 22, 3) := by decide +kernel
theorem dX12_isDone_18 : decode cX12_isDone 18 = .ok (.iconst 2, 1) := by decide +kernel
theorem dX12_isDone_19 : decode cX12_isDone 19 = .ok (.iaload, 1) := by decide +kernel
theorem dX12_isDone_20 : decode cX12_isDone 20 = .ok (.istore 4, 2) := by decide +kernel
theorem dX12_isDone_22 : decode cX12_isDone 22 = .ok (.iload_n 1, 1) := by decide +kernel
theorem dX12_isDone_23 : decode cX12_isDone 23 = .ok (.lookupswitch 209 #[(98, 78), (103, 49), (108, 125), (115, 186), (116, 94)], 49) := by decide +kernel
theorem dX12_isDone_72 : decode cX12_isDone 72 = .ok (.iload_n 2, 1) := by decide +kernel
theorem dX12_isDone_73 : decode cX12_isDone 73 = .ok (.bipush 8, 2) := by decide +kernel
theorem dX12_isDone_75 : decode cX12_isDone 75 = .ok (.if_icmp .ge 14, 3) := by decide +kernel
theorem dX12_isDone_78 : decode cX12_isDone 78 = .ok (.aload_n 0, 1) := by decide +kernel
theorem dX12_isDone_79 : decode cX12_isDone 79 = .ok (.getfield 9, 3) := by decide +kernel
theorem dX12_isDone_82 : decode cX12_isDone 82 = .ok (.iconst 0, 1) := by decide +kernel
theorem dX12_isDone_83 : decode cX12_isDone 83 = .ok (.iaload, 1) := by decide +kernel
theorem dX12_isDone_84 : decode cX12_isDone 84 = .ok (.bipush 7, 2) := by decide +kernel
theorem dX12_isDone_86 : decode cX12_isDone 86 = .ok (.if_icmp .ne 5, 3) := by decide +kernel
theorem dX12_isDone_89 : decode cX12_isDone 89 = .ok (.iconst 0, 1) := by decide +kernel
theorem dX12_isDone_90 : decode cX12_isDone 90 = .ok (.ireturn, 1) := by decide +kernel
theorem dX12_isDone_91 : decode cX12_isDone 91 = .ok (.aload_n 0, 1) := by decide +kernel
theorem dX12_isDone_92 : decode cX12_isDone 92 = .ok (.iload_n 2, 1) := by decide +kernel
theorem dX12_isDone_93 : decode cX12_isDone 93 = .ok (.iload_n 3, 1) := by decide +kernel
theorem dX12_isDone_94 : decode cX12_isDone 94 = .ok (.iload 4, 2) := by decide +kernel
theorem dX12_isDone_96 : decode cX12_isDone 96 = .ok (.invokevirtual 109, 3) := by decide +kernel
theorem dX12_isDone_99 : decode cX12_isDone 99 = .ok (.iconst 1, 1) := by decide +kernel
theorem dX12_isDone_100 : decode cX12_isDone 100 = .ok (.ireturn, 1) := by decide +kernel
theorem dX12_isDone_101 : decode cX12_isDone 101 = .ok (.aload_n 0, 1) := by decide +kernel
theorem dX12_isDone_102 : decode cX12_isDone 102 = .ok (.getfield 9, 3) := by decide +kernel
theorem dX12_isDone_105 : decode cX12_isDone 105 = .ok (.iconst 3, 1) := by decide +kernel
theorem dX12_isDone_106 : decode cX12_isDone 106 = .ok (.iload_n 2, 1) := by decide +kernel
theorem dX12_isDone_107 : decode cX12_isDone 107 = .ok (.iastore, 1) := by decide +kernel
theorem dX12_isDone_108 : decode cX12_isDone 108 = .ok (.aload_n 0, 1) := by decide +kernel
theorem dX12_isDone_109 : decode cX12_isDone 109 = .ok (.getfield 9, 3) := by decide +kernel
theorem dX12_isDone_112 : decode cX12_isDone 112 = .ok (.iconst 4, 1) := by decide +kernel
theorem dX12_isDone_113 : decode cX12_isDone 113 = .ok (.iload_n 3, 1) := by decide +kernel
theorem dX12_isDone_114 : decode cX12_isDone 114 = .ok (.iastore, 1) := by decide +kernel
theorem dX12_isDone_115 : decode cX12_isDone 115 = .ok (.iconst 1, 1) := by decide +kernel
theorem dX12_isDone_116 : decode cX12_isDone 116 = .ok (.ireturn, 1) := by decide +kernel
theorem dX12_isDone_117 : decode cX12_isDone 117 = .ok (.aload_n 0, 1) := by decide +kernel
theorem dX12_isDone_118 : decode cX12_isDone 118 = .ok (.iload_n 2, 1) := by decide +kernel
theorem dX12_isDone_119 : decode cX12_isDone 119 = .ok (.invokevirtual 113, 3) := by decide +kernel
theorem dX12_isDone_122 : decode cX12_isDone 122 = .ok (.ifCond .eq 14, 3) := by decide +kernel
theorem dX12_isDone_125 : decode cX12_isDone 125 = .ok (.aload_n 0, 1) := by decide +kernel
theorem dX12_isDone_126 : decode cX12_isDone 126 = .ok (.getfield 9, 3) := by decide +kernel
theorem dX12_isDone_129 : decode cX12_isDone 129 = .ok (.iload_n 2, 1) := by decide +kernel
theorem dX12_isDone_130 : decode cX12_isDone 130 = .ok (.invokestatic 117, 3) := by decide +kernel
theorem dX12_isDone_133 : decode cX12_isDone 133 = .ok (.ifCond .ne 5, 3) := by decide +kernel
theorem dX12_isDone_136 : decode cX12_isDone 136 = .ok (.iconst 0, 1) := by decide +kernel
theorem dX12_isDone_137 : decode cX12_isDone 137 = .ok (.ireturn, 1) := by decide +kernel
theorem dX12_isDone_138 : decode cX12_isDone 138 = .ok (.aload_n 0, 1) := by decide +kernel
theorem dX12_isDone_139 : decode cX12_isDone 139 = .ok (.getfield 9, 3) := by decide +kernel
theorem dX12_isDone_142 : decode cX12_isDone 142 = .ok (.iload_n 2, 1) := by decide +kernel
theorem dX12_isDone_143 : decode cX12_isDone 143 = .ok (.invokestatic 120, 3) := by decide +kernel
theorem dX12_isDone_146 : decode cX12_isDone 146 = .ok (.iconst 1, 1) := by decide +kernel
theorem dX12_isDone_147 : decode cX12_isDone 147 = .ok (.ireturn, 1) := by decide +kernel
theorem dX12_isDone_148 : decode cX12_isDone 148 = .ok (.aload_n 0, 1) := by decide +kernel
theorem dX12_isDone_149 : decode cX12_isDone 149 = .ok (.iload_n 2, 1) := by decide +kernel
theorem dX12_isDone_150 : decode cX12_isDone 150 = .ok (.invokevirtual 113, 3) := by decide +kernel
theorem dX12_isDone_153 : decode cX12_isDone 153 = .ok (.ifCond .eq 41, 3) := by decide +kernel
theorem dX12_isDone_156 : decode cX12_isDone 156 = .ok (.aload_n 0, 1) := by decide +kernel
theorem dX12_isDone_157 : decode cX12_isDone 157 = .ok (.iload_n 3, 1) := by decide +kernel
theorem dX12_isDone_158 : decode cX12_isDone 158 = .ok (.invokevirtual 113, 3) := by decide +kernel
theorem dX12_isDone_161 : decode cX12_isDone 161 = .ok (.ifCond .eq 33, 3) := by decide +kernel
theorem dX12_isDone_164 : decode cX12_isDone 164 = .ok (.iload_n 2, 1) := by decide +kernel
theorem dX12_isDone_165 : decode cX12_isDone 165 = .ok (.iload_n 3, 1) := by decide +kernel
theorem dX12_isDone_166 : decode cX12_isDone 166 = .ok (.if_icmp .eq 28, 3) := by decide +kernel
theorem dX12_isDone_169 : decode cX12_isDone 169 = .ok (.iload 4, 2) := by decide +kernel
theorem dX12_isDone_171 : decode cX12_isDone 171 = .ok (.iconst 1, 1) := by decide +kernel
theorem dX12_isDone_172 : decode cX12_isDone 172 = .ok (.bipush 20, 2) := by decide +kernel
theorem dX12_isDone_174 : decode cX12_isDone 174 = .ok (.invokestatic 49, 3) := by decide +kernel
theorem dX12_isDone_177 : decode cX12_isDone 177 = .ok (.ifCond .eq 17, 3) := by decide +kernel
theorem dX12_isDone_180 : decode cX12_isDone 180 = .ok (.aload_n 0, 1) := by decide +kernel
theorem dX12_isDone_181 : decode cX12_isDone 181 = .ok (.getfield 9, 3) := by decide +kernel
theorem dX12_isDone_184 : decode cX12_isDone 184 = .ok (.iload_n 2, 1) := by decide +kernel
theorem dX12_isDone_185 : decode cX12_isDone 185 = .ok (.iload_n 3, 1) := by decide +kernel
theorem dX12_isDone_186 : decode cX12_isDone 186 = .ok (.iload 4, 2) := by decide +kernel
theorem dX12_isDone_188 : decode cX12_isDone 188 = .ok (.invokestatic 123, 3) := by decide +kernel
theorem dX12_isDone_191 : decode cX12_isDone 191 = .ok (.ifCond .ne 5, 3) := by decide +kernel
theorem dX12_isDone_194 : decode cX12_isDone 194 = .ok (.iconst 0, 1) := by decide +kernel
theorem dX12_isDone_195 : decode cX12_isDone 195 = .ok (.ireturn, 1) := by decide +kernel
theorem dX12_isDone_196 : decode cX12_isDone 196 = .ok (.aload_n 0, 1) := by decide +kernel
theorem dX12_isDone_197 : decode cX12_isDone 197 = .ok (.getfield 9, 3) := by decide +kernel
theorem dX12_isDone_200 : decode cX12_isDone 200 = .ok (.iload_n 2, 1) := by decide +kernel
theorem dX12_isDone_201 : decode cX12_isDone 201 = .ok (.iload_n 3, 1) := by decide +kernel
theorem dX12_isDone_202 : decode cX12_isDone 202 = .ok (.iload 4, 2) := by decide +kernel
theorem dX12_isDone_204 : decode cX12_isDone 204 = .ok (.invokestatic 127, 3) := by decide +kernel
theorem dX12_isDone_207 : decode cX12_isDone 207 = .ok (.iconst 1, 1) := by decide +kernel
theorem dX12_isDone_208 : decode cX12_isDone 208 = .ok (.ireturn, 1) := by decide +kernel
theorem dX12_isDone_209 : decode cX12_isDone 209 = .ok (.aload_n 0, 1) := by decide +kernel
theorem dX12_isDone_210 : decode cX12_isDone 210 = .ok (.iload_n 2, 1) := by decide +kernel
theorem dX12_isDone_211 : decode cX12_isDone 211 = .ok (.invokevirtual 113, 3) := by decide +kernel
theorem dX12_isDone_214 : decode cX12_isDone 214 = .ok (.ifCond .ne 5, 3) := by decide +kernel
theorem dX12_isDone_217 : decode cX12_isDone 217 = .ok (.iconst 0, 1) := by decide +kernel
theorem dX12_isDone_218 : decode cX12_isDone 218 = .ok (.ireturn, 1) := by decide +kernel
theorem dX12_isDone_219 : decode cX12_isDone 219 = .ok (.aload_n 0, 1) := by decide +kernel
theorem dX12_isDone_220 : decode cX12_isDone 220 = .ok (.getfield 9, 3) := by decide +kernel
theorem dX12_isDone_223 : decode cX12_isDone 223 = .ok (.iload_n 2, 1) := by decide +kernel
theorem dX12_isDone_224 : decode cX12_isDone 224 = .ok (.iconst 4, 1) := by decide +kernel
theorem dX12_isDone_225 : decode cX12_isDone 225 = .ok (.invokestatic 53, 3) := by decide +kernel
theorem dX12_isDone_228 : decode cX12_isDone 228 = .ok (.iload_n 3, 1) := by decide +kernel
theorem dX12_isDone_229 : decode cX12_isDone 229 = .ok (.iastore, 1) := by decide +kernel
theorem dX12_isDone_230 : decode cX12_isDone 230 = .ok (.iconst 1, 1) := by decide +kernel
theorem dX12_isDone_231 : decode cX12_isDone 231 = .ok (.ireturn, 1) := by decide +kernel
theorem dX12_isDone_232 : decode cX12_isDone 232 = .ok (.iload_n 2, 1) := by decide +kernel
theorem dX12_isDone_233 : decode cX12_isDone 233 = .ok (.iconst 1, 1) := by decide +kernel
theorem dX12_isDone_234 : decode cX12_isDone 234 = .ok (.bipush 60, 2) := by decide +kernel
theorem dX12_isDone_236 : decode cX12_isDone 236 = .ok (.invokestatic 49, 3) := by decide +kernel
theorem dX12_isDone_239 : decode cX12_isDone 239 = .ok (.ifCond .eq 17, 3) := by decide +kernel
theorem dX12_isDone_242 : decode cX12_isDone 242 = .ok (.aload_n 0, 1) := by decide +kernel
theorem dX12_isDone_243 : decode cX12_isDone 243 = .ok (.getfield 9, 3) := by decide +kernel
theorem dX12_isDone_246 : decode cX12_isDone 246 = .ok (.iconst 1, 1) := by decide +kernel
theorem dX12_isDone_247 : decode cX12_isDone 247 = .ok (.iaload, 1) := by decide +kernel
theorem dX12_isDone_248 : decode cX12_isDone 248 = .ok (.iload_n 2, 1) := by decide +kernel
theorem dX12_isDone_249 : decode cX12_isDone 249 = .ok (.iadd, 1) := by decide +kernel
theorem dX12_isDone_250 : decode cX12_isDone 250 = .ok (.sipush 999, 3) := by decide +kernel
theorem dX12_isDone_253 : decode cX12_isDone 253 = .ok (.if_icmp .le 5, 3) := by decide +kernel
theorem dX12_isDone_256 : decode cX12_isDone 256 = .ok (.iconst 0, 1) := by decide +kernel
theorem dX12_isDone_257 : decode cX12_isDone 257 = .ok (.ireturn, 1) := by decide +kernel
theorem dX12_isDone_258 : decode cX12_isDone 258 = .ok (.aload_n 0, 1) := by decide +kernel
theorem dX12_isDone_259 : decode cX12_isDone 259 = .ok (.getfield 9, 3) := by decide +kernel
theorem dX12_isDone_262 : decode cX12_isDone 262 = .ok (.iload_n 2, 1) := by decide +kernel
theorem dX12_isDone_263 : decode cX12_isDone 263 = .ok (.invokestatic 131, 3) := by decide +kernel
theorem dX12_isDone_266 : decode cX12_isDone 266 = .ok (.iconst 1, 1) := by decide +kernel
theorem dX12_isDone_267 : decode cX12_isDone 267 = .ok (.ireturn, 1) := by decide +kernel
theorem dX12_house_0 : decode cX12_house 0 = .ok (.aload_n 0, 1) := by decide +kernel
theorem dX12_house_1 : decode cX12_house 1 = .ok (.iload_n 1, 1) := by decide +kernel
theorem dX12_house_2 : decode cX12_house 2 = .ok (.iconst 0, 1) := by decide +kernel
theorem dX12_house_3 : decode cX12_house 3 = .ok (.invokevirtual 134, 3) := by decide +kernel
theorem dX12_house_6 : decode cX12_house 6 = .ok (.istore_n 2, 1) := by decide +kernel
theorem dX12_house_7 : decode cX12_house 7 = .ok (.iload_n 2, 1) := by decide +kernel
theorem dX12_house_8 : decode cX12_house 8 = .ok (.ifCond .eq 5, 3) := by decide +kernel
theorem dX12_house_11 : decode cX12_house 11 = .ok (.iload_n 2, 1) := by decide +kernel
theorem dX12_house_12 : decode cX12_house 12 = .ok (.ireturn, 1) := by decide +kernel
theorem dX12_house_13 : decode cX12_house 13 = .ok (.aload_n 0, 1) := by decide +kernel
theorem dX12_house_14 : decode cX12_house 14 = .ok (.bipush 100, 2) := by decide +kernel
theorem dX12_house_16 : decode cX12_house 16 = .ok (.iload_n 1, 1) := by decide +kernel
theorem dX12_house_17 : decode cX12_house 17 = .ok (.imul, 1) := by decide +kernel
theorem dX12_house_18 : decode cX12_house 18 = .ok (.putfield 96, 3) := by decide +kernel
theorem dX12_house_21 : decode cX12_house 21 = .ok (.aload_n 0, 1) := by decide +kernel
theorem dX12_house_22 : decode cX12_house 22 = .ok (.aload_n 0, 1) := by decide +kernel
theorem dX12_house_23 : decode cX12_house 23 = .ok (.getfield 43, 3) := by decide +kernel
theorem dX12_house_26 : decode cX12_house 26 = .ok (.iload_n 1, 1) := by decide +kernel
theorem dX12_house_27 : decode cX12_house 27 = .ok (.iaload, 1) := by decide +kernel
theorem dX12_house_28 : decode cX12_house 28 = .ok (.putfield 93, 3) := by decide +kernel
theorem dX12_house_31 : decode cX12_house 31 = .ok (.aload_n 0, 1) := by decide +kernel
theorem dX12_house_32 : decode cX12_house 32 = .ok (.iconst 0, 1) := by decide +kernel
theorem dX12_house_33 : decode cX12_house 33 = .ok (.putfield 89, 3) := by decide +kernel
theorem dX12_house_36 : decode cX12_house 36 = .ok (.iconst 0, 1) := by decide +kernel
theorem dX12_house_37 : decode cX12_house 37 = .ok (.istore_n 3, 1) := by decide +kernel
theorem dX12_house_38 : decode cX12_house 38 = .ok (.iconst 0, 1) := by decide +kernel
theorem dX12_house_39 : decode cX12_house 39 = .ok (.istore 4, 2) := by decide +kernel
theorem dX12_house_41 : decode cX12_house 41 = .ok (.aload_n 0, 1) := by decide +kernel
theorem dX12_house_42 : decode cX12_house 42 = .ok (.invokevirtual 137, 3) := by decide +kernel
theorem dX12_house_45 : decode cX12_house 45 = .ok (.ifCond .ne 13, 3) := by decide +kernel
theorem dX12_house_48 : decode cX12_house 48 = .ok (.sipush (-1000), 3) := by decide +kernel
theorem dX12_house_51 : decode cX12_house 51 = .ok (.aload_n 0, 1) := by decide +kernel
theorem dX12_house_52 : decode cX12_house 52 = .ok (.getfield 89, 3) := by decide +kernel
theorem dX12_house_55 : decode cX12_house 55 = .ok (.isub, 1) := by decide +kernel
theorem dX12_house_56 : decode cX12_house 56 = .ok (.istore 4, 2) := by decide +kernel
theorem dX12_house_58 : decode cX12_house 58 = .ok (.iinc 3 1, 3) := by decide +kernel
theorem dX12_house_61 : decode cX12_house 61 = .ok (.iload 4, 2) := by decide +kernel
theorem dX12_house_63 : decode cX12_house 63 = .ok (.ifCond .ne 14, 3) := by decide +kernel
theorem dX12_house_66 : decode cX12_house 66 = .ok (.aload_n 0, 1) := by decide +kernel
theorem dX12_house_67 : decode cX12_house 67 = .ok (.getfield 89, 3) := by decide +kernel
theorem dX12_house_70 : decode cX12_house 70 = .ok (.aload_n 0, 1) := by decide +kernel
theorem dX12_house_71 : decode cX12_house 71 = .ok (.getfield 93, 3) := by decide +kernel
theorem dX12_house_74 : decode cX12_house 74 = .ok (.if_icmp .lt (-33), 3) := by decide +kernel
theorem dX12_house_77 : decode cX12_house 77 = .ok (.aload_n 0, 1) := by decide +kernel
theorem dX12_house_78 : decode cX12_house 78 = .ok (.getfield 9, 3) := by decide +kernel
theorem dX12_house_81 : decode cX12_house 81 = .ok (.aload_n 0, 1) := by decide +kernel
theorem dX12_house_82 : decode cX12_house 82 = .ok (.getfield 19, 3) := by decide +kernel
theorem dX12_house_85 : decode cX12_house 85 = .ok (.invokestatic 141, 3) := by decide +kernel
theorem dX12_house_88 : decode cX12_house 88 = .ok (.aload_n 0, 1) := by decide +kernel
theorem dX12_house_89 : decode cX12_house 89 = .ok (.iconst 0, 1) := by decide +kernel
theorem dX12_house_90 : decode cX12_house 90 = .ok (.putfield 89, 3) := by decide +kernel
theorem dX12_house_93 : decode cX12_house 93 = .ok (.iload 4, 2) := by decide +kernel
theorem dX12_house_95 : decode cX12_house 95 = .ok (.ifCond .ne 66, 3) := by decide +kernel
theorem dX12_house_98 : decode cX12_house 98 = .ok (.aload_n 0, 1) := by decide +kernel
theorem dX12_house_99 : decode cX12_house 99 = .ok (.getfield 89, 3) := by decide +kernel
theorem dX12_house_102 : decode cX12_house 102 = .ok (.aload_n 0, 1) := by decide +kernel
theorem dX12_house_103 : decode cX12_house 103 = .ok (.getfield 93, 3) := by decide +kernel
theorem dX12_house_106 : decode cX12_house 106 = .ok (.if_icmp .ge 55, 3) := by decide +kernel
theorem dX12_house_109 : decode cX12_house 109 = .ok (.aload_n 0, 1) := by decide +kernel
theorem dX12_house_110 : decode cX12_house 110 = .ok (.getfield 89, 3) := by decide +kernel
theorem dX12_house_113 : decode cX12_house 113 = .ok (.istore 5, 2) := by decide +kernel
theorem dX12_house_115 : decode cX12_house 115 = .ok (.aload_n 0, 1) := by decide +kernel
theorem dX12_house_116 : decode cX12_house 116 = .ok (.invokevirtual 99, 3) := by decide +kernel
theorem dX12_house_119 : decode cX12_house 119 = .ok (.istore 6, 2) := by decide +kernel
theorem dX12_house_121 : decode cX12_house 121 = .ok (.aload_n 0, 1) := by decide +kernel
theorem dX12_house_122 : decode cX12_house 122 = .ok (.invokevirtual 137, 3) := by decide +kernel
theorem dX12_house_125 : decode cX12_house 125 = .ok (.istore 7, 2) := by decide +kernel
theorem dX12_house_127 : decode cX12_house 127 = .ok (.aload_n 0, 1) := by decide +kernel
theorem dX12_house_128 : decode cX12_house 128 = .ok (.iload 6, 2) := by decide +kernel
theorem dX12_house_130 : decode cX12_house 130 = .ok (.invokevirtual 145, 3) := by decide +kernel
theorem dX12_house_133 : decode cX12_house 133 = .ok (.ifCond .eq 6, 3) := by decide +kernel
theorem dX12_house_136 : decode cX12_house 136 = .ok (.goto (-43), 3) := by decide +kernel
theorem dX12_house_139 : decode cX12_house 139 = .ok (.sipush (-2000), 3) := by decide +kernel
theorem dX12_house_142 : decode cX12_house 142 = .ok (.iload 5, 2) := by decide +kernel
theorem dX12_house_144 : decode cX12_house 144 = .ok (.isub, 1) := by decide +kernel
theorem dX12_house_145 : decode cX12_house 145 = .ok (.istore 4, 2) := by decide +kernel
theorem dX12_house_147 : decode cX12_house 147 = .ok (.aload_n 0, 1) := by decide +kernel
theorem dX12_house_148 : decode cX12_house 148 = .ok (.getfield 19, 3) := by decide +kernel
theorem dX12_house_151 : decode cX12_house 151 = .ok (.aload_n 0, 1) := by decide +kernel
theorem dX12_house_152 : decode cX12_house 152 = .ok (.getfield 9, 3) := by decide +kernel
theorem dX12_house_155 : decode cX12_house 155 = .ok (.invokestatic 141, 3) := by decide +kernel
theorem dX12_house_158 : decode cX12_house 158 = .ok (.goto (-65), 3) := by decide +kernel
theorem dX12_house_161 : decode cX12_house 161 = .ok (.iload 4, 2) := by decide +kernel
theorem dX12_house_163 : decode cX12_house 163 = .ok (.ifCond .ne 7, 3) := by decide +kernel
theorem dX12_house_166 : decode cX12_house 166 = .ok (.iload_n 3, 1) := by decide +kernel
theorem dX12_house_167 : decode cX12_house 167 = .ok (.goto 5, 3) := by decide +kernel
theorem dX12_house_170 : decode cX12_house 170 = .ok (.iload 4, 2) := by decide +kernel
theorem dX12_house_172 : decode cX12_house 172 = .ok (.ireturn, 1) := by decide +kernel
theorem dX12_guest_0 : decode cX12_guest 0 = .ok (.aload_n 0, 1) := by decide +kernel
theorem dX12_guest_1 : decode cX12_guest 1 = .ok (.iload_n 1, 1) := by decide +kernel
theorem dX12_guest_2 : decode cX12_guest 2 = .ok (.invokevirtual 113, 3) := by decide +kernel
theorem dX12_guest_5 : decode cX12_guest 5 = .ok (.ifCond .eq 13, 3) := by decide +kernel
theorem dX12_guest_8 : decode cX12_guest 8 = .ok (.iload_n 2, 1) := by decide +kernel
theorem dX12_guest_9 : decode cX12_guest 9 = .ok (.iconst 0, 1) := by decide +kernel
theorem dX12_guest_10 : decode cX12_guest 10 = .ok (.bipush 8, 2) := by decide +kernel
theorem dX12_guest_12 : decode cX12_guest 12 = .ok (.invokestatic 49, 3) := by decide +kernel
theorem dX12_guest_15 : decode cX12_guest 15 = .ok (.ifCond .ne 5, 3) := by decide +kernel
theorem dX12_guest_18 : decode cX12_guest 18 = .ok (.iconst (-1), 1) := by decide +kernel
theorem dX12_guest_19 : decode cX12_guest 19 = .ok (.ireturn, 1) := by decide +kernel
theorem dX12_guest_20 : decode cX12_guest 20 = .ok (.iload_n 2, 1) := by decide +kernel
theorem dX12_guest_21 : decode cX12_guest 21 = .ok (.bipush 7, 2) := by decide +kernel
theorem dX12_guest_23 : decode cX12_guest 23 = .ok (.if_icmp .ne 22, 3) := by decide +kernel
theorem dX12_guest_26 : decode cX12_guest 26 = .ok (.aload_n 0, 1) := by decide +kernel
theorem dX12_guest_27 : decode cX12_guest 27 = .ok (.getfield 9, 3) := by decide +kernel
theorem dX12_guest_30 : decode cX12_guest 30 = .ok (.iload_n 1, 1) := by decide +kernel
theorem dX12_guest_31 : decode cX12_guest 31 = .ok (.invokestatic 79, 3) := by decide +kernel
theorem dX12_guest_34 : decode cX12_guest 34 = .ok (.ifCond .eq 7, 3) := by decide +kernel
theorem dX12_guest_37 : decode cX12_guest 37 = .ok (.iconst 1, 1) := by decide +kernel
theorem dX12_guest_38 : decode cX12_guest 38 = .ok (.goto 34, 3) := by decide +kernel
theorem dX12_guest_41 : decode cX12_guest 41 = .ok (.iconst 0, 1) := by decide +kernel
theorem dX12_guest_42 : decode cX12_guest 42 = .ok (.goto 30, 3) := by decide +kernel
theorem dX12_guest_45 : decode cX12_guest 45 = .ok (.iload_n 2, 1) := by decide +kernel
theorem dX12_guest_46 : decode cX12_guest 46 = .ok (.bipush 8, 2) := by decide +kernel
theorem dX12_guest_48 : decode cX12_guest 48 = .ok (.if_icmp .ne 14, 3) := by decide +kernel
theorem dX12_guest_51 : decode cX12_guest 51 = .ok (.aload_n 0, 1) := by decide +kernel
theorem dX12_guest_52 : decode cX12_guest 52 = .ok (.getfield 9, 3) := by decide +kernel
theorem dX12_guest_55 : decode cX12_guest 55 = .ok (.iload_n 1, 1) := by decide +kernel
theorem dX12_guest_56 : decode cX12_guest 56 = .ok (.invokestatic 148, 3) := by decide +kernel
theorem dX12_guest_59 : decode cX12_guest 59 = .ok (.goto 13, 3) := by decide +kernel
theorem dX12_guest_62 : decode cX12_guest 62 = .ok (.aload_n 0, 1) := by decide +kernel
theorem dX12_guest_63 : decode cX12_guest 63 = .ok (.getfield 9, 3) := by decide +kernel
theorem dX12_guest_66 : decode cX12_guest 66 = .ok (.iload_n 1, 1) := by decide +kernel
theorem dX12_guest_67 : decode cX12_guest 67 = .ok (.iload_n 2, 1) := by decide +kernel
theorem dX12_guest_68 : decode cX12_guest 68 = .ok (.invokestatic 53, 3) := by decide +kernel
theorem dX12_guest_71 : decode cX12_guest 71 = .ok (.iaload, 1) := by decide +kernel
theorem dX12_guest_72 : decode cX12_guest 72 = .ok (.ireturn, 1) := by decide +kernel
theorem dX12_comes_0 : decode cX12_comes 0 = .ok (.iload_n 2, 1) := by decide +kernel
theorem dX12_comes_1 : decode cX12_comes 1 = .ok (.iconst 0, 1) := by decide +kernel
theorem dX12_comes_2 : decode cX12_comes 2 = .ok (.bipush 99, 2) := by decide +kernel
theorem dX12_comes_4 : decode cX12_comes 4 = .ok (.invokestatic 49, 3) := by decide +kernel
theorem dX12_comes_7 : decode cX12_comes 7 = .ok (.ifCond .ne 5, 3) := by decide +kernel
theorem dX12_comes_10 : decode cX12_comes 10 = .ok (.iconst (-1), 1) := by decide +kernel
theorem dX12_comes_11 : decode cX12_comes 11 = .ok (.ireturn, 1) := by decide +kernel
theorem dX12_comes_12 : decode cX12_comes 12 = .ok (.aload_n 0, 1) := by decide +kernel
theorem dX12_comes_13 : decode cX12_comes 13 = .ok (.iload_n 1, 1) := by decide +kernel
theorem dX12_comes_14 : decode cX12_comes 14 = .ok (.invokevirtual 152, 3) := by decide +kernel
theorem dX12_comes_17 : decode cX12_comes 17 = .ok (.istore_n 3, 1) := by decide +kernel
theorem dX12_comes_18 : decode cX12_comes 18 = .ok (.iload_n 3, 1) := by decide +kernel
theorem dX12_comes_19 : decode cX12_comes 19 = .ok (.ifCond .eq 5, 3) := by decide +kernel
theorem dX12_comes_22 : decode cX12_comes 22 = .ok (.iload_n 3, 1) := by decide +kernel
theorem dX12_comes_23 : decode cX12_comes 23 = .ok (.ireturn, 1) := by decide +kernel
theorem dX12_comes_24 : decode cX12_comes 24 = .ok (.aload_n 0, 1) := by decide +kernel
theorem dX12_comes_25 : decode cX12_comes 25 = .ok (.getfield 9, 3) := by decide +kernel
theorem dX12_comes_28 : decode cX12_comes 28 = .ok (.iconst 0, 1) := by decide +kernel
theorem dX12_comes_29 : decode cX12_comes 29 = .ok (.iaload, 1) := by decide +kernel
theorem dX12_comes_30 : decode cX12_comes 30 = .ok (.bipush 7, 2) := by decide +kernel
theorem dX12_comes_32 : decode cX12_comes 32 = .ok (.if_icmp .ne 6, 3) := by decide +kernel
theorem dX12_comes_35 : decode cX12_comes 35 = .ok (.bipush (-2), 2) := by decide +kernel
theorem dX12_comes_37 : decode cX12_comes 37 = .ok (.ireturn, 1) := by decide +kernel
theorem dX12_comes_38 : decode cX12_comes 38 = .ok (.aload_n 0, 1) := by decide +kernel
theorem dX12_comes_39 : decode cX12_comes 39 = .ok (.aload_n 0, 1) := by decide +kernel
theorem dX12_comes_40 : decode cX12_comes 40 = .ok (.getfield 34, 3) := by decide +kernel
theorem dX12_comes_43 : decode cX12_comes 43 = .ok (.iload_n 1, 1) := by decide +kernel
theorem dX12_comes_44 : decode cX12_comes 44 = .ok (.iaload, 1) := by decide +kernel
theorem dX12_comes_45 : decode cX12_comes 45 = .ok (.aload_n 0, 1) := by decide +kernel
theorem dX12_comes_46 : decode cX12_comes 46 = .ok (.getfield 37, 3) := by decide +kernel
theorem dX12_comes_49 : decode cX12_comes 49 = .ok (.iload_n 1, 1) := by decide +kernel
theorem dX12_comes_50 : decode cX12_comes 50 = .ok (.iaload, 1) := by decide +kernel
theorem dX12_comes_51 : decode cX12_comes 51 = .ok (.iload_n 2, 1) := by decide +kernel
theorem dX12_comes_52 : decode cX12_comes 52 = .ok (.invokevirtual 109, 3) := by decide +kernel
theorem dX12_comes_55 : decode cX12_comes 55 = .ok (.aload_n 0, 1) := by decide +kernel
theorem dX12_comes_56 : decode cX12_comes 56 = .ok (.getfield 9, 3) := by decide +kernel
theorem dX12_comes_59 : decode cX12_comes 59 = .ok (.iconst 0, 1) := by decide +kernel
theorem dX12_comes_60 : decode cX12_comes 60 = .ok (.iaload, 1) := by decide +kernel
theorem dX12_comes_61 : decode cX12_comes 61 = .ok (.iconst 1, 1) := by decide +kernel
theorem dX12_comes_62 : decode cX12_comes 62 = .ok (.isub, 1) := by decide +kernel
theorem dX12_comes_63 : decode cX12_comes 63 = .ok (.ireturn, 1) := by decide +kernel
theorem dX12_tells_0 : decode cX12_tells 0 = .ok (.aload_n 0, 1) := by decide +kernel
theorem dX12_tells_1 : decode cX12_tells 1 = .ok (.iload_n 1, 1) := by decide +kernel
theorem dX12_tells_2 : decode cX12_tells 2 = .ok (.invokevirtual 113, 3) := by decide +kernel
theorem dX12_tells_5 : decode cX12_tells 5 = .ok (.ifCond .ne 5, 3) := by decide +kernel
theorem dX12_tells_8 : decode cX12_tells 8 = .ok (.iconst (-1), 1) := by decide +kernel
theorem dX12_tells_9 : decode cX12_tells 9 = .ok (.ireturn, 1) := by decide +kernel
theorem dX12_tells_10 : decode cX12_tells 10 = .ok (.aload_n 0, 1) := by decide +kernel
theorem dX12_tells_11 : decode cX12_tells 11 = .ok (.getfield 9, 3) := by decide +kernel
theorem dX12_tells_14 : decode cX12_tells 14 = .ok (.iload_n 1, 1) := by decide +kernel
theorem dX12_tells_15 : decode cX12_tells 15 = .ok (.invokestatic 117, 3) := by decide +kernel
theorem dX12_tells_18 : decode cX12_tells 18 = .ok (.ifCond .ne 6, 3) := by decide +kernel
theorem dX12_tells_21 : decode cX12_tells 21 = .ok (.bipush (-3), 2) := by decide +kernel
theorem dX12_tells_23 : decode cX12_tells 23 = .ok (.ireturn, 1) := by decide +kernel
theorem dX12_tells_24 : decode cX12_tells 24 = .ok (.aload_n 0, 1) := by decide +kernel
theorem dX12_tells_25 : decode cX12_tells 25 = .ok (.getfield 9, 3) := by decide +kernel
theorem dX12_tells_28 : decode cX12_tells 28 = .ok (.iload_n 1, 1) := by decide +kernel
theorem dX12_tells_29 : decode cX12_tells 29 = .ok (.invokestatic 120, 3) := by decide +kernel
theorem dX12_tells_32 : decode cX12_tells 32 = .ok (.aload_n 0, 1) := by decide +kernel
theorem dX12_tells_33 : decode cX12_tells 33 = .ok (.getfield 9, 3) := by decide +kernel
theorem dX12_tells_36 : decode cX12_tells 36 = .ok (.iload_n 1, 1) := by decide +kernel
theorem dX12_tells_37 : decode cX12_tells 37 = .ok (.iconst 2, 1) := by decide +kernel
theorem dX12_tells_38 : decode cX12_tells 38 = .ok (.invokestatic 53, 3) := by decide +kernel
theorem dX12_tells_41 : decode cX12_tells 41 = .ok (.iaload, 1) := by decide +kernel
theorem dX12_tells_42 : decode cX12_tells 42 = .ok (.ireturn, 1) := by decide +kernel
theorem dX12_lends_0 : decode cX12_lends 0 = .ok (.aload_n 0, 1) := by decide +kernel
theorem dX12_lends_1 : decode cX12_lends 1 = .ok (.iload_n 1, 1) := by decide +kernel
theorem dX12_lends_2 : decode cX12_lends 2 = .ok (.invokevirtual 113, 3) := by decide +kernel
theorem dX12_lends_5 : decode cX12_lends 5 = .ok (.ifCond .eq 26, 3) := by decide +kernel
theorem dX12_lends_8 : decode cX12_lends 8 = .ok (.aload_n 0, 1) := by decide +kernel
theorem dX12_lends_9 : decode cX12_lends 9 = .ok (.iload_n 2, 1) := by decide +kernel
theorem dX12_lends_10 : decode cX12_lends 10 = .ok (.invokevirtual 113, 3) := by decide +kernel
theorem dX12_lends_13 : decode cX12_lends 13 = .ok (.ifCond .eq 18, 3) := by decide +kernel
theorem dX12_lends_16 : decode cX12_lends 16 = .ok (.iload_n 1, 1) := by decide +kernel
theorem dX12_lends_17 : decode cX12_lends 17 = .ok (.iload_n 2, 1) := by decide +kernel
theorem dX12_lends_18 : decode cX12_lends 18 = .ok (.if_icmp .eq 13, 3) := by decide +kernel
theorem dX12_lends_21 : decode cX12_lends 21 = .ok (.iload_n 3, 1) := by decide +kernel
theorem dX12_lends_22 : decode cX12_lends 22 = .ok (.iconst 1, 1) := by decide +kernel
theorem dX12_lends_23 : decode cX12_lends 23 = .ok (.bipush 20, 2) := by decide +kernel
theorem dX12_lends_25 : decode cX12_lends 25 = .ok (.invokestatic 49, 3) := by decide +kernel
theorem dX12_lends_28 : decode cX12_lends 28 = .ok (.ifCond .ne 5, 3) := by decide +kernel
theorem dX12_lends_31 : decode cX12_lends 31 = .ok (.iconst (-1), 1) := by decide +kernel
theorem dX12_lends_32 : decode cX12_lends 32 = .ok (.ireturn, 1) := by decide +kernel
theorem dX12_lends_33 : decode cX12_lends 33 = .ok (.aload_n 0, 1) := by decide +kernel
theorem dX12_lends_34 : decode cX12_lends 34 = .ok (.getfield 9, 3) := by decide +kernel
theorem dX12_lends_37 : decode cX12_lends 37 = .ok (.iload_n 1, 1) := by decide +kernel
theorem dX12_lends_38 : decode cX12_lends 38 = .ok (.iload_n 2, 1) := by decide +kernel
theorem dX12_lends_39 : decode cX12_lends 39 = .ok (.iload_n 3, 1) := by decide +kernel
theorem dX12_lends_40 : decode cX12_lends 40 = .ok (.invokestatic 123, 3) := by decide +kernel
theorem dX12_lends_43 : decode cX12_lends 43 = .ok (.ifCond .ne 6, 3) := by decide +kernel
theorem dX12_lends_46 : decode cX12_lends 46 = .ok (.bipush (-3), 2) := by decide +kernel
theorem dX12_lends_48 : decode cX12_lends 48 = .ok (.ireturn, 1) := by decide +kernel
theorem dX12_lends_49 : decode cX12_lends 49 = .ok (.aload_n 0, 1) := by decide +kernel
theorem dX12_lends_50 : decode cX12_lends 50 = .ok (.getfield 9, 3) := by decide +kernel
theorem dX12_lends_53 : decode cX12_lends 53 = .ok (.iload_n 1, 1) := by decide +kernel
theorem dX12_lends_54 : decode cX12_lends 54 = .ok (.iload_n 2, 1) := by decide +kernel
theorem dX12_lends_55 : decode cX12_lends 55 = .ok (.iload_n 3, 1) := by decide +kernel
theorem dX12_lends_56 : decode cX12_lends 56 = .ok (.invokestatic 127, 3) := by decide +kernel
theorem dX12_lends_59 : decode cX12_lends 59 = .ok (.aload_n 0, 1) := by decide +kernel
theorem dX12_lends_60 : decode cX12_lends 60 = .ok (.getfield 9, 3) := by decide +kernel
theorem dX12_lends_63 : decode cX12_lends 63 = .ok (.iload_n 1, 1) := by decide +kernel
theorem dX12_lends_64 : decode cX12_lends 64 = .ok (.iconst 2, 1) := by decide +kernel
theorem dX12_lends_65 : decode cX12_lends 65 = .ok (.invokestatic 53, 3) := by decide +kernel
theorem dX12_lends_68 : decode cX12_lends 68 = .ok (.iaload, 1) := by decide +kernel
theorem dX12_lends_69 : decode cX12_lends 69 = .ok (.ireturn, 1) := by decide +kernel
theorem dX12_table_0 : decode cX12_table 0 = .ok (.iload_n 1, 1) := by decide +kernel
theorem dX12_table_1 : decode cX12_table 1 = .ok (.iconst 0, 1) := by decide +kernel
theorem dX12_table_2 : decode cX12_table 2 = .ok (.bipush 9, 2) := by decide +kernel
theorem dX12_table_4 : decode cX12_table 4 = .ok (.invokestatic 49, 3) := by decide +kernel
theorem dX12_table_7 : decode cX12_table 7 = .ok (.ifCond .eq 13, 3) := by decide +kernel
theorem dX12_table_10 : decode cX12_table 10 = .ok (.iload_n 2, 1) := by decide +kernel
theorem dX12_table_11 : decode cX12_table 11 = .ok (.iconst 0, 1) := by decide +kernel
theorem dX12_table_12 : decode cX12_table 12 = .ok (.bipush 9, 2) := by decide +kernel
theorem dX12_table_14 : decode cX12_table 14 = .ok (.invokestatic 49, 3) := by decide +kernel
theorem dX12_table_17 : decode cX12_table 17 = .ok (.ifCond .ne 5, 3) := by decide +kernel
theorem dX12_table_20 : decode cX12_table 20 = .ok (.iconst (-1), 1) := by decide +kernel
theorem dX12_table_21 : decode cX12_table 21 = .ok (.ireturn, 1) := by decide +kernel
theorem dX12_table_22 : decode cX12_table 22 = .ok (.bipush 10, 2) := by decide +kernel
theorem dX12_table_24 : decode cX12_table 24 = .ok (.aload_n 0, 1) := by decide +kernel
theorem dX12_table_25 : decode cX12_table 25 = .ok (.getfield 9, 3) := by decide +kernel
theorem dX12_table_28 : decode cX12_table 28 = .ok (.iconst 3, 1) := by decide +kernel
theorem dX12_table_29 : decode cX12_table 29 = .ok (.iaload, 1) := by decide +kernel
theorem dX12_table_30 : decode cX12_table 30 = .ok (.imul, 1) := by decide +kernel
theorem dX12_table_31 : decode cX12_table 31 = .ok (.aload_n 0, 1) := by decide +kernel
theorem dX12_table_32 : decode cX12_table 32 = .ok (.getfield 9, 3) := by decide +kernel
theorem dX12_table_35 : decode cX12_table 35 = .ok (.iconst 4, 1) := by decide +kernel
theorem dX12_table_36 : decode cX12_table 36 = .ok (.iaload, 1) := by decide +kernel
theorem dX12_table_37 : decode cX12_table 37 = .ok (.iadd, 1) := by decide +kernel
theorem dX12_table_38 : decode cX12_table 38 = .ok (.istore_n 3, 1) := by decide +kernel
theorem dX12_table_39 : decode cX12_table 39 = .ok (.aload_n 0, 1) := by decide +kernel
theorem dX12_table_40 : decode cX12_table 40 = .ok (.getfield 9, 3) := by decide +kernel
theorem dX12_table_43 : decode cX12_table 43 = .ok (.iconst 3, 1) := by decide +kernel
theorem dX12_table_44 : decode cX12_table 44 = .ok (.iload_n 1, 1) := by decide +kernel
theorem dX12_table_45 : decode cX12_table 45 = .ok (.iastore, 1) := by decide +kernel
theorem dX12_table_46 : decode cX12_table 46 = .ok (.aload_n 0, 1) := by decide +kernel
theorem dX12_table_47 : decode cX12_table 47 = .ok (.getfield 9, 3) := by decide +kernel
theorem dX12_table_50 : decode cX12_table 50 = .ok (.iconst 4, 1) := by decide +kernel
theorem dX12_table_51 : decode cX12_table 51 = .ok (.iload_n 2, 1) := by decide +kernel
theorem dX12_table_52 : decode cX12_table 52 = .ok (.iastore, 1) := by decide +kernel
theorem dX12_table_53 : decode cX12_table 53 = .ok (.iload_n 3, 1) := by decide +kernel
theorem dX12_table_54 : decode cX12_table 54 = .ok (.ireturn, 1) := by decide +kernel
theorem dX12_weighs_0 : decode cX12_weighs 0 = .ok (.aload_n 0, 1) := by decide +kernel
theorem dX12_weighs_1 : decode cX12_weighs 1 = .ok (.iload_n 1, 1) := by decide +kernel
theorem dX12_weighs_2 : decode cX12_weighs 2 = .ok (.invokevirtual 113, 3) := by decide +kernel
theorem dX12_weighs_5 : decode cX12_weighs 5 = .ok (.ifCond .eq 13, 3) := by decide +kernel
theorem dX12_weighs_8 : decode cX12_weighs 8 = .ok (.iload_n 2, 1) := by decide +kernel
theorem dX12_weighs_9 : decode cX12_weighs 9 = .ok (.iconst 0, 1) := by decide +kernel
theorem dX12_weighs_10 : decode cX12_weighs 10 = .ok (.bipush 99, 2) := by decide +kernel
theorem dX12_weighs_12 : decode cX12_weighs 12 = .ok (.invokestatic 49, 3) := by decide +kernel
theorem dX12_weighs_15 : decode cX12_weighs 15 = .ok (.ifCond .ne 5, 3) := by decide +kernel
theorem dX12_weighs_18 : decode cX12_weighs 18 = .ok (.iconst (-1), 1) := by decide +kernel
theorem dX12_weighs_19 : decode cX12_weighs 19 = .ok (.ireturn, 1) := by decide +kernel
theorem dX12_weighs_20 : decode cX12_weighs 20 = .ok (.aload_n 0, 1) := by decide +kernel
theorem dX12_weighs_21 : decode cX12_weighs 21 = .ok (.getfield 9, 3) := by decide +kernel
theorem dX12_weighs_24 : decode cX12_weighs 24 = .ok (.iload_n 1, 1) := by decide +kernel
theorem dX12_weighs_25 : decode cX12_weighs 25 = .ok (.invokestatic 61, 3) := by decide +kernel
theorem dX12_weighs_28 : decode cX12_weighs 28 = .ok (.ifCond .ne 6, 3) := by decide +kernel
theorem dX12_weighs_31 : decode cX12_weighs 31 = .ok (.bipush (-3), 2) := by decide +kernel
theorem dX12_weighs_33 : decode cX12_weighs 33 = .ok (.ireturn, 1) := by decide +kernel
theorem dX12_weighs_34 : decode cX12_weighs 34 = .ok (.aload_n 0, 1) := by decide +kernel
theorem dX12_weighs_35 : decode cX12_weighs 35 = .ok (.getfield 9, 3) := by decide +kernel
theorem dX12_weighs_38 : decode cX12_weighs 38 = .ok (.iload_n 1, 1) := by decide +kernel
theorem dX12_weighs_39 : decode cX12_weighs 39 = .ok (.iconst 2, 1) := by decide +kernel
theorem dX12_weighs_40 : decode cX12_weighs 40 = .ok (.invokestatic 53, 3) := by decide +kernel
theorem dX12_weighs_43 : decode cX12_weighs 43 = .ok (.iaload, 1) := by decide +kernel
theorem dX12_weighs_44 : decode cX12_weighs 44 = .ok (.istore_n 3, 1) := by decide +kernel
theorem dX12_weighs_45 : decode cX12_weighs 45 = .ok (.aload_n 0, 1) := by decide +kernel
theorem dX12_weighs_46 : decode cX12_weighs 46 = .ok (.getfield 9, 3) := by decide +kernel
theorem dX12_weighs_49 : decode cX12_weighs 49 = .ok (.iload_n 1, 1) := by decide +kernel
theorem dX12_weighs_50 : decode cX12_weighs 50 = .ok (.iconst 2, 1) := by decide +kernel
theorem dX12_weighs_51 : decode cX12_weighs 51 = .ok (.invokestatic 53, 3) := by decide +kernel
theorem dX12_weighs_54 : decode cX12_weighs 54 = .ok (.iload_n 2, 1) := by decide +kernel
theorem dX12_weighs_55 : decode cX12_weighs 55 = .ok (.iastore, 1) := by decide +kernel
theorem dX12_weighs_56 : decode cX12_weighs 56 = .ok (.iload_n 3, 1) := by decide +kernel
theorem dX12_weighs_57 : decode cX12_weighs 57 = .ok (.ireturn, 1) := by decide +kernel
theorem dX12_days_0 : decode cX12_days 0 = .ok (.iload_n 1, 1) := by decide +kernel
theorem dX12_days_1 : decode cX12_days 1 = .ok (.iconst 1, 1) := by decide +kernel
theorem dX12_days_2 : decode cX12_days 2 = .ok (.bipush 60, 2) := by decide +kernel
theorem dX12_days_4 : decode cX12_days 4 = .ok (.invokestatic 49, 3) := by decide +kernel
theorem dX12_days_7 : decode cX12_days 7 = .ok (.ifCond .ne 5, 3) := by decide +kernel
theorem dX12_days_10 : decode cX12_days 10 = .ok (.iconst (-1), 1) := by decide +kernel
theorem dX12_days_11 : decode cX12_days 11 = .ok (.ireturn, 1) := by decide +kernel
theorem dX12_days_12 : decode cX12_days 12 = .ok (.aload_n 0, 1) := by decide +kernel
theorem dX12_days_13 : decode cX12_days 13 = .ok (.getfield 9, 3) := by decide +kernel
theorem dX12_days_16 : decode cX12_days 16 = .ok (.iconst 1, 1) := by decide +kernel
theorem dX12_days_17 : decode cX12_days 17 = .ok (.iaload, 1) := by decide +kernel
theorem dX12_days_18 : decode cX12_days 18 = .ok (.iload_n 1, 1) := by decide +kernel
theorem dX12_days_19 : decode cX12_days 19 = .ok (.iadd, 1) := by decide +kernel
theorem dX12_days_20 : decode cX12_days 20 = .ok (.sipush 999, 3) := by decide +kernel
theorem dX12_days_23 : decode cX12_days 23 = .ok (.if_icmp .le 6, 3) := by decide +kernel
theorem dX12_days_26 : decode cX12_days 26 = .ok (.bipush (-3), 2) := by decide +kernel
theorem dX12_days_28 : decode cX12_days 28 = .ok (.ireturn, 1) := by decide +kernel
theorem dX12_days_29 : decode cX12_days 29 = .ok (.aload_n 0, 1) := by decide +kernel
theorem dX12_days_30 : decode cX12_days 30 = .ok (.getfield 9, 3) := by decide +kernel
theorem dX12_days_33 : decode cX12_days 33 = .ok (.iload_n 1, 1) := by decide +kernel
theorem dX12_days_34 : decode cX12_days 34 = .ok (.invokestatic 131, 3) := by decide +kernel
theorem dX12_days_37 : decode cX12_days 37 = .ok (.aload_n 0, 1) := by decide +kernel
theorem dX12_days_38 : decode cX12_days 38 = .ok (.getfield 9, 3) := by decide +kernel
theorem dX12_days_41 : decode cX12_days 41 = .ok (.iconst 2, 1) := by decide +kernel
theorem dX12_days_42 : decode cX12_days 42 = .ok (.iaload, 1) := by decide +kernel
theorem dX12_days_43 : decode cX12_days 43 = .ok (.ireturn, 1) := by decide +kernel
theorem dX12_isLate_0 : decode cX12_isLate 0 = .ok (.iload_n 0, 1) := by decide +kernel
theorem dX12_isLate_1 : decode cX12_isLate 1 = .ok (.iconst 0, 1) := by decide +kernel
theorem dX12_isLate_2 : decode cX12_isLate 2 = .ok (.bipush 60, 2) := by decide +kernel
theorem dX12_isLate_4 : decode cX12_isLate 4 = .ok (.invokestatic 49, 3) := by decide +kernel
theorem dX12_isLate_7 : decode cX12_isLate 7 = .ok (.ireturn, 1) := by decide +kernel
theorem dX12_takes_0 : decode cX12_takes 0 = .ok (.aload_n 0, 1) := by decide +kernel
theorem dX12_takes_1 : decode cX12_takes 1 = .ok (.getfield 9, 3) := by decide +kernel
theorem dX12_takes_4 : decode cX12_takes 4 = .ok (.aload_n 0, 1) := by decide +kernel
theorem dX12_takes_5 : decode cX12_takes 5 = .ok (.getfield 13, 3) := by decide +kernel
theorem dX12_takes_8 : decode cX12_takes 8 = .ok (.invokestatic 141, 3) := by decide +kernel
theorem dX12_takes_11 : decode cX12_takes 11 = .ok (.aload_n 0, 1) := by decide +kernel
theorem dX12_takes_12 : decode cX12_takes 12 = .ok (.getfield 13, 3) := by decide +kernel
theorem dX12_takes_15 : decode cX12_takes 15 = .ok (.iload_n 1, 1) := by decide +kernel
theorem dX12_takes_16 : decode cX12_takes 16 = .ok (.invokestatic 131, 3) := by decide +kernel
theorem dX12_takes_19 : decode cX12_takes 19 = .ok (.return_, 1) := by decide +kernel
theorem dX12_weightThen_0 : decode cX12_weightThen 0 = .ok (.aload_n 0, 1) := by decide +kernel
theorem dX12_weightThen_1 : decode cX12_weightThen 1 = .ok (.iload_n 1, 1) := by decide +kernel
theorem dX12_weightThen_2 : decode cX12_weightThen 2 = .ok (.invokevirtual 113, 3) := by decide +kernel
theorem dX12_weightThen_5 : decode cX12_weightThen 5 = .ok (.ifCond .eq 10, 3) := by decide +kernel
theorem dX12_weightThen_8 : decode cX12_weightThen 8 = .ok (.iload_n 2, 1) := by decide +kernel
theorem dX12_weightThen_9 : decode cX12_weightThen 9 = .ok (.invokestatic 155, 3) := by decide +kernel
theorem dX12_weightThen_12 : decode cX12_weightThen 12 = .ok (.ifCond .ne 5, 3) := by decide +kernel
theorem dX12_weightThen_15 : decode cX12_weightThen 15 = .ok (.iconst (-1), 1) := by decide +kernel
theorem dX12_weightThen_16 : decode cX12_weightThen 16 = .ok (.ireturn, 1) := by decide +kernel
theorem dX12_weightThen_17 : decode cX12_weightThen 17 = .ok (.aload_n 0, 1) := by decide +kernel
theorem dX12_weightThen_18 : decode cX12_weightThen 18 = .ok (.iload_n 2, 1) := by decide +kernel
theorem dX12_weightThen_19 : decode cX12_weightThen 19 = .ok (.invokevirtual 158, 3) := by decide +kernel
theorem dX12_weightThen_22 : decode cX12_weightThen 22 = .ok (.aload_n 0, 1) := by decide +kernel
theorem dX12_weightThen_23 : decode cX12_weightThen 23 = .ok (.getfield 13, 3) := by decide +kernel
theorem dX12_weightThen_26 : decode cX12_weightThen 26 = .ok (.iload_n 1, 1) := by decide +kernel
theorem dX12_weightThen_27 : decode cX12_weightThen 27 = .ok (.iconst 2, 1) := by decide +kernel
theorem dX12_weightThen_28 : decode cX12_weightThen 28 = .ok (.invokestatic 53, 3) := by decide +kernel
theorem dX12_weightThen_31 : decode cX12_weightThen 31 = .ok (.iaload, 1) := by decide +kernel
theorem dX12_weightThen_32 : decode cX12_weightThen 32 = .ok (.ireturn, 1) := by decide +kernel
theorem dX12_then_0 : decode cX12_then 0 = .ok (.iload_n 1, 1) := by decide +kernel
theorem dX12_then_1 : decode cX12_then 1 = .ok (.invokestatic 155, 3) := by decide +kernel
theorem dX12_then_4 : decode cX12_then 4 = .ok (.ifCond .eq 12, 3) := by decide +kernel
theorem dX12_then_7 : decode cX12_then 7 = .ok (.iload_n 2, 1) := by decide +kernel
theorem dX12_then_8 : decode cX12_then 8 = .ok (.iconst 0, 1) := by decide +kernel
theorem dX12_then_9 : decode cX12_then 9 = .ok (.iconst 2, 1) := by decide +kernel
theorem dX12_then_10 : decode cX12_then 10 = .ok (.invokestatic 49, 3) := by decide +kernel
theorem dX12_then_13 : decode cX12_then 13 = .ok (.ifCond .ne 5, 3) := by decide +kernel
theorem dX12_then_16 : decode cX12_then 16 = .ok (.iconst (-1), 1) := by decide +kernel
theorem dX12_then_17 : decode cX12_then 17 = .ok (.ireturn, 1) := by decide +kernel
theorem dX12_then_18 : decode cX12_then 18 = .ok (.aload_n 0, 1) := by decide +kernel
theorem dX12_then_19 : decode cX12_then 19 = .ok (.iload_n 1, 1) := by decide +kernel
theorem dX12_then_20 : decode cX12_then 20 = .ok (.invokevirtual 158, 3) := by decide +kernel
theorem dX12_then_23 : decode cX12_then 23 = .ok (.iload_n 2, 1) := by decide +kernel
theorem dX12_then_24 : decode cX12_then 24 = .ok (.ifCond .ne 13, 3) := by decide +kernel
theorem dX12_then_27 : decode cX12_then 27 = .ok (.aload_n 0, 1) := by decide +kernel
theorem dX12_then_28 : decode cX12_then 28 = .ok (.getfield 13, 3) := by decide +kernel
theorem dX12_then_31 : decode cX12_then 31 = .ok (.invokestatic 162, 3) := by decide +kernel
theorem dX12_then_34 : decode cX12_then 34 = .ok (.goto 24, 3) := by decide +kernel
theorem dX12_then_37 : decode cX12_then 37 = .ok (.iload_n 2, 1) := by decide +kernel
theorem dX12_then_38 : decode cX12_then 38 = .ok (.iconst 1, 1) := by decide +kernel
theorem dX12_then_39 : decode cX12_then 39 = .ok (.if_icmp .ne 12, 3) := by decide +kernel
theorem dX12_then_42 : decode cX12_then 42 = .ok (.aload_n 0, 1) := by decide +kernel
theorem dX12_then_43 : decode cX12_then 43 = .ok (.getfield 13, 3) := by decide +kernel
theorem dX12_then_46 : decode cX12_then 46 = .ok (.iconst 2, 1) := by decide +kernel
theorem dX12_then_47 : decode cX12_then 47 = .ok (.iaload, 1) := by decide +kernel
theorem dX12_then_48 : decode cX12_then 48 = .ok (.goto 10, 3) := by decide +kernel
theorem dX12_then_51 : decode cX12_then 51 = .ok (.aload_n 0, 1) := by decide +kernel
theorem dX12_then_52 : decode cX12_then 52 = .ok (.getfield 13, 3) := by decide +kernel
theorem dX12_then_55 : decode cX12_then 55 = .ok (.invokestatic 166, 3) := by decide +kernel
theorem dX12_then_58 : decode cX12_then 58 = .ok (.ireturn, 1) := by decide +kernel
theorem dX12_leavesOf_0 : decode cX12_leavesOf 0 = .ok (.aload_n 0, 1) := by decide +kernel
theorem dX12_leavesOf_1 : decode cX12_leavesOf 1 = .ok (.getfield 9, 3) := by decide +kernel
theorem dX12_leavesOf_4 : decode cX12_leavesOf 4 = .ok (.aload_n 0, 1) := by decide +kernel
theorem dX12_leavesOf_5 : decode cX12_leavesOf 5 = .ok (.getfield 13, 3) := by decide +kernel
theorem dX12_leavesOf_8 : decode cX12_leavesOf 8 = .ok (.invokestatic 141, 3) := by decide +kernel
theorem dX12_leavesOf_11 : decode cX12_leavesOf 11 = .ok (.iconst 0, 1) := by decide +kernel
theorem dX12_leavesOf_12 : decode cX12_leavesOf 12 = .ok (.istore_n 2, 1) := by decide +kernel
theorem dX12_leavesOf_13 : decode cX12_leavesOf 13 = .ok (.iload_n 2, 1) := by decide +kernel
theorem dX12_leavesOf_14 : decode cX12_leavesOf 14 = .ok (.bipush 60, 2) := by decide +kernel
theorem dX12_leavesOf_16 : decode cX12_leavesOf 16 = .ok (.if_icmp .gt 30, 3) := by decide +kernel
theorem dX12_leavesOf_19 : decode cX12_leavesOf 19 = .ok (.aload_n 0, 1) := by decide +kernel
theorem dX12_leavesOf_20 : decode cX12_leavesOf 20 = .ok (.getfield 13, 3) := by decide +kernel
theorem dX12_leavesOf_23 : decode cX12_leavesOf 23 = .ok (.iload_n 1, 1) := by decide +kernel
theorem dX12_leavesOf_24 : decode cX12_leavesOf 24 = .ok (.invokestatic 61, 3) := by decide +kernel
theorem dX12_leavesOf_27 : decode cX12_leavesOf 27 = .ok (.ifCond .ne 5, 3) := by decide +kernel
theorem dX12_leavesOf_30 : decode cX12_leavesOf 30 = .ok (.iload_n 2, 1) := by decide +kernel
theorem dX12_leavesOf_31 : decode cX12_leavesOf 31 = .ok (.ireturn, 1) := by decide +kernel
theorem dX12_leavesOf_32 : decode cX12_leavesOf 32 = .ok (.aload_n 0, 1) := by decide +kernel
theorem dX12_leavesOf_33 : decode cX12_leavesOf 33 = .ok (.getfield 13, 3) := by decide +kernel
theorem dX12_leavesOf_36 : decode cX12_leavesOf 36 = .ok (.iconst 0, 1) := by decide +kernel
theorem dX12_leavesOf_37 : decode cX12_leavesOf 37 = .ok (.invokestatic 82, 3) := by decide +kernel
theorem dX12_leavesOf_40 : decode cX12_leavesOf 40 = .ok (.iinc 2 1, 3) := by decide +kernel
theorem dX12_leavesOf_43 : decode cX12_leavesOf 43 = .ok (.goto (-30), 3) := by decide +kernel
theorem dX12_leavesOf_46 : decode cX12_leavesOf 46 = .ok (.bipush (-4), 2) := by decide +kernel
theorem dX12_leavesOf_48 : decode cX12_leavesOf 48 = .ok (.ireturn, 1) := by decide +kernel
theorem dX12_firstLeaves_0 : decode cX12_firstLeaves 0 = .ok (.bipush (-4), 2) := by decide +kernel
theorem dX12_firstLeaves_2 : decode cX12_firstLeaves 2 = .ok (.istore_n 1, 1) := by decide +kernel
theorem dX12_firstLeaves_3 : decode cX12_firstLeaves 3 = .ok (.ldc 169, 2) := by decide +kernel
theorem dX12_firstLeaves_5 : decode cX12_firstLeaves 5 = .ok (.istore_n 2, 1) := by decide +kernel
theorem dX12_firstLeaves_6 : decode cX12_firstLeaves 6 = .ok (.iconst 0, 1) := by decide +kernel
theorem dX12_firstLeaves_7 : decode cX12_firstLeaves 7 = .ok (.istore_n 3, 1) := by decide +kernel
theorem dX12_firstLeaves_8 : decode cX12_firstLeaves 8 = .ok (.iload_n 3, 1) := by decide +kernel
theorem dX12_firstLeaves_9 : decode cX12_firstLeaves 9 = .ok (.aload_n 0, 1) := by decide +kernel
theorem dX12_firstLeaves_10 : decode cX12_firstLeaves 10 = .ok (.getfield 9, 3) := by decide +kernel
theorem dX12_firstLeaves_13 : decode cX12_firstLeaves 13 = .ok (.iconst 0, 1) := by decide +kernel
theorem dX12_firstLeaves_14 : decode cX12_firstLeaves 14 = .ok (.iaload, 1) := by decide +kernel
theorem dX12_firstLeaves_15 : decode cX12_firstLeaves 15 = .ok (.if_icmp .ge 51, 3) := by decide +kernel
theorem dX12_firstLeaves_18 : decode cX12_firstLeaves 18 = .ok (.aload_n 0, 1) := by decide +kernel
theorem dX12_firstLeaves_19 : decode cX12_firstLeaves 19 = .ok (.getfield 9, 3) := by decide +kernel
theorem dX12_firstLeaves_22 : decode cX12_firstLeaves 22 = .ok (.iload_n 3, 1) := by decide +kernel
theorem dX12_firstLeaves_23 : decode cX12_firstLeaves 23 = .ok (.invokestatic 61, 3) := by decide +kernel
theorem dX12_firstLeaves_26 : decode cX12_firstLeaves 26 = .ok (.ifCond .eq 11, 3) := by decide +kernel
theorem dX12_firstLeaves_29 : decode cX12_firstLeaves 29 = .ok (.aload_n 0, 1) := by decide +kernel
theorem dX12_firstLeaves_30 : decode cX12_firstLeaves 30 = .ok (.iload_n 3, 1) := by decide +kernel
theorem dX12_firstLeaves_31 : decode cX12_firstLeaves 31 = .ok (.invokevirtual 170, 3) := by decide +kernel
theorem dX12_firstLeaves_34 : decode cX12_firstLeaves 34 = .ok (.goto 5, 3) := by decide +kernel
theorem dX12_firstLeaves_37 : decode cX12_firstLeaves 37 = .ok (.bipush (-4), 2) := by decide +kernel
theorem dX12_firstLeaves_39 : decode cX12_firstLeaves 39 = .ok (.istore 4, 2) := by decide +kernel
theorem dX12_firstLeaves_41 : decode cX12_firstLeaves 41 = .ok (.iload 4, 2) := by decide +kernel
theorem dX12_firstLeaves_43 : decode cX12_firstLeaves 43 = .ok (.ifCond .lt 17, 3) := by decide +kernel
theorem dX12_firstLeaves_46 : decode cX12_firstLeaves 46 = .ok (.iload 4, 2) := by decide +kernel
theorem dX12_firstLeaves_48 : decode cX12_firstLeaves 48 = .ok (.iload_n 2, 1) := by decide +kernel
theorem dX12_firstLeaves_49 : decode cX12_firstLeaves 49 = .ok (.if_icmp .lt 6, 3) := by decide +kernel
theorem dX12_firstLeaves_52 : decode cX12_firstLeaves 52 = .ok (.goto 8, 3) := by decide +kernel
theorem dX12_firstLeaves_55 : decode cX12_firstLeaves 55 = .ok (.iload_n 3, 1) := by decide +kernel
theorem dX12_firstLeaves_56 : decode cX12_firstLeaves 56 = .ok (.istore_n 1, 1) := by decide +kernel
theorem dX12_firstLeaves_57 : decode cX12_firstLeaves 57 = .ok (.iload 4, 2) := by decide +kernel
theorem dX12_firstLeaves_59 : decode cX12_firstLeaves 59 = .ok (.istore_n 2, 1) := by decide +kernel
theorem dX12_firstLeaves_60 : decode cX12_firstLeaves 60 = .ok (.iinc 3 1, 3) := by decide +kernel
theorem dX12_firstLeaves_63 : decode cX12_firstLeaves 63 = .ok (.goto (-55), 3) := by decide +kernel
theorem dX12_firstLeaves_66 : decode cX12_firstLeaves 66 = .ok (.iload_n 1, 1) := by decide +kernel
theorem dX12_firstLeaves_67 : decode cX12_firstLeaves 67 = .ok (.ireturn, 1) := by decide +kernel
theorem dX12_leaves_0 : decode cX12_leaves 0 = .ok (.iload_n 1, 1) := by decide +kernel
theorem dX12_leaves_1 : decode cX12_leaves 1 = .ok (.iconst (-1), 1) := by decide +kernel
theorem dX12_leaves_2 : decode cX12_leaves 2 = .ok (.if_icmp .ne 10, 3) := by decide +kernel
theorem dX12_leaves_5 : decode cX12_leaves 5 = .ok (.aload_n 0, 1) := by decide +kernel
theorem dX12_leaves_6 : decode cX12_leaves 6 = .ok (.invokevirtual 173, 3) := by decide +kernel
theorem dX12_leaves_9 : decode cX12_leaves 9 = .ok (.goto 20, 3) := by decide +kernel
theorem dX12_leaves_12 : decode cX12_leaves 12 = .ok (.aload_n 0, 1) := by decide +kernel
theorem dX12_leaves_13 : decode cX12_leaves 13 = .ok (.iload_n 1, 1) := by decide +kernel
theorem dX12_leaves_14 : decode cX12_leaves 14 = .ok (.invokevirtual 113, 3) := by decide +kernel
theorem dX12_leaves_17 : decode cX12_leaves 17 = .ok (.ifCond .eq 11, 3) := by decide +kernel
theorem dX12_leaves_20 : decode cX12_leaves 20 = .ok (.aload_n 0, 1) := by decide +kernel
theorem dX12_leaves_21 : decode cX12_leaves 21 = .ok (.iload_n 1, 1) := by decide +kernel
theorem dX12_leaves_22 : decode cX12_leaves 22 = .ok (.invokevirtual 170, 3) := by decide +kernel
theorem dX12_leaves_25 : decode cX12_leaves 25 = .ok (.goto 4, 3) := by decide +kernel
theorem dX12_leaves_28 : decode cX12_leaves 28 = .ok (.iconst (-1), 1) := by decide +kernel
theorem dX12_leaves_29 : decode cX12_leaves 29 = .ok (.ireturn, 1) := by decide +kernel
theorem dX12_lighterThan_0 : decode cX12_lighterThan 0 = .ok (.iconst 0, 1) := by decide +kernel
theorem dX12_lighterThan_1 : decode cX12_lighterThan 1 = .ok (.istore_n 2, 1) := by decide +kernel
theorem dX12_lighterThan_2 : decode cX12_lighterThan 2 = .ok (.aload_n 0, 1) := by decide +kernel
theorem dX12_lighterThan_3 : decode cX12_lighterThan 3 = .ok (.getfield 9, 3) := by decide +kernel
theorem dX12_lighterThan_6 : decode cX12_lighterThan 6 = .ok (.iload_n 1, 1) := by decide +kernel
theorem dX12_lighterThan_7 : decode cX12_lighterThan 7 = .ok (.iconst 2, 1) := by decide +kernel
theorem dX12_lighterThan_8 : decode cX12_lighterThan 8 = .ok (.invokestatic 53, 3) := by decide +kernel
theorem dX12_lighterThan_11 : decode cX12_lighterThan 11 = .ok (.iaload, 1) := by decide +kernel
theorem dX12_lighterThan_12 : decode cX12_lighterThan 12 = .ok (.istore_n 3, 1) := by decide +kernel
theorem dX12_lighterThan_13 : decode cX12_lighterThan 13 = .ok (.iconst 0, 1) := by decide +kernel
theorem dX12_lighterThan_14 : decode cX12_lighterThan 14 = .ok (.istore 4, 2) := by decide +kernel
theorem dX12_lighterThan_16 : decode cX12_lighterThan 16 = .ok (.iload 4, 2) := by decide +kernel
theorem dX12_lighterThan_18 : decode cX12_lighterThan 18 = .ok (.aload_n 0, 1) := by decide +kernel
theorem dX12_lighterThan_19 : decode cX12_lighterThan 19 = .ok (.getfield 9, 3) := by decide +kernel
theorem dX12_lighterThan_22 : decode cX12_lighterThan 22 = .ok (.iconst 0, 1) := by decide +kernel
theorem dX12_lighterThan_23 : decode cX12_lighterThan 23 = .ok (.iaload, 1) := by decide +kernel
theorem dX12_lighterThan_24 : decode cX12_lighterThan 24 = .ok (.if_icmp .ge 65, 3) := by decide +kernel
theorem dX12_lighterThan_27 : decode cX12_lighterThan 27 = .ok (.iload_n 2, 1) := by decide +kernel
theorem dX12_lighterThan_28 : decode cX12_lighterThan 28 = .ok (.aload_n 0, 1) := by decide +kernel
theorem dX12_lighterThan_29 : decode cX12_lighterThan 29 = .ok (.getfield 9, 3) := by decide +kernel
theorem dX12_lighterThan_32 : decode cX12_lighterThan 32 = .ok (.iload 4, 2) := by decide +kernel
theorem dX12_lighterThan_34 : decode cX12_lighterThan 34 = .ok (.invokestatic 61, 3) := by decide +kernel
theorem dX12_lighterThan_37 : decode cX12_lighterThan 37 = .ok (.ifCond .eq 43, 3) := by decide +kernel
theorem dX12_lighterThan_40 : decode cX12_lighterThan 40 = .ok (.aload_n 0, 1) := by decide +kernel
theorem dX12_lighterThan_41 : decode cX12_lighterThan 41 = .ok (.getfield 9, 3) := by decide +kernel
theorem dX12_lighterThan_44 : decode cX12_lighterThan 44 = .ok (.iload 4, 2) := by decide +kernel
theorem dX12_lighterThan_46 : decode cX12_lighterThan 46 = .ok (.iconst 2, 1) := by decide +kernel
theorem dX12_lighterThan_47 : decode cX12_lighterThan 47 = .ok (.invokestatic 53, 3) := by decide +kernel
theorem dX12_lighterThan_50 : decode cX12_lighterThan 50 = .ok (.iaload, 1) := by decide +kernel
theorem dX12_lighterThan_51 : decode cX12_lighterThan 51 = .ok (.iload_n 3, 1) := by decide +kernel
theorem dX12_lighterThan_52 : decode cX12_lighterThan 52 = .ok (.if_icmp .lt 24, 3) := by decide +kernel
theorem dX12_lighterThan_55 : decode cX12_lighterThan 55 = .ok (.aload_n 0, 1) := by decide +kernel
theorem dX12_lighterThan_56 : decode cX12_lighterThan 56 = .ok (.getfield 9, 3) := by decide +kernel
theorem dX12_lighterThan_59 : decode cX12_lighterThan 59 = .ok (.iload 4, 2) := by decide +kernel
theorem dX12_lighterThan_61 : decode cX12_lighterThan 61 = .ok (.iconst 2, 1) := by decide +kernel
theorem dX12_lighterThan_62 : decode cX12_lighterThan 62 = .ok (.invokestatic 53, 3) := by decide +kernel
theorem dX12_lighterThan_65 : decode cX12_lighterThan 65 = .ok (.iaload, 1) := by decide +kernel
theorem dX12_lighterThan_66 : decode cX12_lighterThan 66 = .ok (.iload_n 3, 1) := by decide +kernel
theorem dX12_lighterThan_67 : decode cX12_lighterThan 67 = .ok (.if_icmp .ne 13, 3) := by decide +kernel
theorem dX12_lighterThan_70 : decode cX12_lighterThan 70 = .ok (.iload 4, 2) := by decide +kernel
theorem dX12_lighterThan_72 : decode cX12_lighterThan 72 = .ok (.iload_n 1, 1) := by decide +kernel
theorem dX12_lighterThan_73 : decode cX12_lighterThan 73 = .ok (.if_icmp .ge 7, 3) := by decide +kernel
theorem dX12_lighterThan_76 : decode cX12_lighterThan 76 = .ok (.iconst 1, 1) := by decide +kernel
theorem dX12_lighterThan_77 : decode cX12_lighterThan 77 = .ok (.goto 4, 3) := by decide +kernel
theorem dX12_lighterThan_80 : decode cX12_lighterThan 80 = .ok (.iconst 0, 1) := by decide +kernel
theorem dX12_lighterThan_81 : decode cX12_lighterThan 81 = .ok (.iadd, 1) := by decide +kernel
theorem dX12_lighterThan_82 : decode cX12_lighterThan 82 = .ok (.istore_n 2, 1) := by decide +kernel
theorem dX12_lighterThan_83 : decode cX12_lighterThan 83 = .ok (.iinc 4 1, 3) := by decide +kernel
theorem dX12_lighterThan_86 : decode cX12_lighterThan 86 = .ok (.goto (-70), 3) := by decide +kernel
theorem dX12_lighterThan_89 : decode cX12_lighterThan 89 = .ok (.iload_n 2, 1) := by decide +kernel
theorem dX12_lighterThan_90 : decode cX12_lighterThan 90 = .ok (.ireturn, 1) := by decide +kernel
theorem dX12_order_0 : decode cX12_order 0 = .ok (.iload_n 1, 1) := by decide +kernel
theorem dX12_order_1 : decode cX12_order 1 = .ok (.iconst (-1), 1) := by decide +kernel
theorem dX12_order_2 : decode cX12_order 2 = .ok (.if_icmp .ge 5, 3) := by decide +kernel
theorem dX12_order_5 : decode cX12_order 5 = .ok (.iconst (-1), 1) := by decide +kernel
theorem dX12_order_6 : decode cX12_order 6 = .ok (.ireturn, 1) := by decide +kernel
theorem dX12_order_7 : decode cX12_order 7 = .ok (.bipush (-4), 2) := by decide +kernel
theorem dX12_order_9 : decode cX12_order 9 = .ok (.istore_n 2, 1) := by decide +kernel
theorem dX12_order_10 : decode cX12_order 10 = .ok (.iconst 0, 1) := by decide +kernel
theorem dX12_order_11 : decode cX12_order 11 = .ok (.istore_n 3, 1) := by decide +kernel
theorem dX12_order_12 : decode cX12_order 12 = .ok (.iload_n 3, 1) := by decide +kernel
theorem dX12_order_13 : decode cX12_order 13 = .ok (.aload_n 0, 1) := by decide +kernel
theorem dX12_order_14 : decode cX12_order 14 = .ok (.getfield 9, 3) := by decide +kernel
theorem dX12_order_17 : decode cX12_order 17 = .ok (.iconst 0, 1) := by decide +kernel
theorem dX12_order_18 : decode cX12_order 18 = .ok (.iaload, 1) := by decide +kernel
theorem dX12_order_19 : decode cX12_order 19 = .ok (.if_icmp .ge 68, 3) := by decide +kernel
theorem dX12_order_22 : decode cX12_order 22 = .ok (.aload_n 0, 1) := by decide +kernel
theorem dX12_order_23 : decode cX12_order 23 = .ok (.getfield 9, 3) := by decide +kernel
theorem dX12_order_26 : decode cX12_order 26 = .ok (.iload_n 3, 1) := by decide +kernel
theorem dX12_order_27 : decode cX12_order 27 = .ok (.invokestatic 61, 3) := by decide +kernel
theorem dX12_order_30 : decode cX12_order 30 = .ok (.ifCond .ne 6, 3) := by decide +kernel
theorem dX12_order_33 : decode cX12_order 33 = .ok (.goto 48, 3) := by decide +kernel
theorem dX12_order_36 : decode cX12_order 36 = .ok (.iload_n 1, 1) := by decide +kernel
theorem dX12_order_37 : decode cX12_order 37 = .ok (.ifCond .lt 15, 3) := by decide +kernel
theorem dX12_order_40 : decode cX12_order 40 = .ok (.aload_n 0, 1) := by decide +kernel
theorem dX12_order_41 : decode cX12_order 41 = .ok (.iload_n 3, 1) := by decide +kernel
theorem dX12_order_42 : decode cX12_order 42 = .ok (.invokevirtual 176, 3) := by decide +kernel
theorem dX12_order_45 : decode cX12_order 45 = .ok (.iload_n 1, 1) := by decide +kernel
theorem dX12_order_46 : decode cX12_order 46 = .ok (.if_icmp .ne 35, 3) := by decide +kernel
theorem dX12_order_49 : decode cX12_order 49 = .ok (.goto 30, 3) := by decide +kernel
theorem dX12_order_52 : decode cX12_order 52 = .ok (.iload_n 2, 1) := by decide +kernel
theorem dX12_order_53 : decode cX12_order 53 = .ok (.ifCond .lt 26, 3) := by decide +kernel
theorem dX12_order_56 : decode cX12_order 56 = .ok (.aload_n 0, 1) := by decide +kernel
theorem dX12_order_57 : decode cX12_order 57 = .ok (.getfield 9, 3) := by decide +kernel
theorem dX12_order_60 : decode cX12_order 60 = .ok (.iload_n 3, 1) := by decide +kernel
theorem dX12_order_61 : decode cX12_order 61 = .ok (.iconst 2, 1) := by decide +kernel
theorem dX12_order_62 : decode cX12_order 62 = .ok (.invokestatic 53, 3) := by decide +kernel
theorem dX12_order_65 : decode cX12_order 65 = .ok (.iaload, 1) := by decide +kernel
theorem dX12_order_66 : decode cX12_order 66 = .ok (.aload_n 0, 1) := by decide +kernel
theorem dX12_order_67 : decode cX12_order 67 = .ok (.getfield 9, 3) := by decide +kernel
theorem dX12_order_70 : decode cX12_order 70 = .ok (.iload_n 2, 1) := by decide +kernel
theorem dX12_order_71 : decode cX12_order 71 = .ok (.iconst 2, 1) := by decide +kernel
theorem dX12_order_72 : decode cX12_order 72 = .ok (.invokestatic 53, 3) := by decide +kernel
theorem dX12_order_75 : decode cX12_order 75 = .ok (.iaload, 1) := by decide +kernel
theorem dX12_order_76 : decode cX12_order 76 = .ok (.if_icmp .le 5, 3) := by decide +kernel
theorem dX12_order_79 : decode cX12_order 79 = .ok (.iload_n 3, 1) := by decide +kernel
theorem dX12_order_80 : decode cX12_order 80 = .ok (.istore_n 2, 1) := by decide +kernel
theorem dX12_order_81 : decode cX12_order 81 = .ok (.iinc 3 1, 3) := by decide +kernel
theorem dX12_order_84 : decode cX12_order 84 = .ok (.goto (-72), 3) := by decide +kernel
theorem dX12_order_87 : decode cX12_order 87 = .ok (.iload_n 2, 1) := by decide +kernel
theorem dX12_order_88 : decode cX12_order 88 = .ok (.ireturn, 1) := by decide +kernel
theorem dX12_feed_0 : decode cX12_feed 0 = .ok (.iload_n 1, 1) := by decide +kernel
theorem dX12_feed_1 : decode cX12_feed 1 = .ok (.invokestatic 155, 3) := by decide +kernel
theorem dX12_feed_4 : decode cX12_feed 4 = .ok (.ifCond .eq 12, 3) := by decide +kernel
theorem dX12_feed_7 : decode cX12_feed 7 = .ok (.iload_n 2, 1) := by decide +kernel
theorem dX12_feed_8 : decode cX12_feed 8 = .ok (.iconst 0, 1) := by decide +kernel
theorem dX12_feed_9 : decode cX12_feed 9 = .ok (.iconst 1, 1) := by decide +kernel
theorem dX12_feed_10 : decode cX12_feed 10 = .ok (.invokestatic 49, 3) := by decide +kernel
theorem dX12_feed_13 : decode cX12_feed 13 = .ok (.ifCond .ne 5, 3) := by decide +kernel
theorem dX12_feed_16 : decode cX12_feed 16 = .ok (.iconst (-1), 1) := by decide +kernel
theorem dX12_feed_17 : decode cX12_feed 17 = .ok (.ireturn, 1) := by decide +kernel
theorem dX12_feed_18 : decode cX12_feed 18 = .ok (.iconst 0, 1) := by decide +kernel
theorem dX12_feed_19 : decode cX12_feed 19 = .ok (.istore_n 3, 1) := by decide +kernel
theorem dX12_feed_20 : decode cX12_feed 20 = .ok (.iconst (-1), 1) := by decide +kernel
theorem dX12_feed_21 : decode cX12_feed 21 = .ok (.istore 4, 2) := by decide +kernel
theorem dX12_feed_23 : decode cX12_feed 23 = .ok (.iconst 0, 1) := by decide +kernel
theorem dX12_feed_24 : decode cX12_feed 24 = .ok (.istore 5, 2) := by decide +kernel
theorem dX12_feed_26 : decode cX12_feed 26 = .ok (.iload 5, 2) := by decide +kernel
theorem dX12_feed_28 : decode cX12_feed 28 = .ok (.bipush 10, 2) := by decide +kernel
theorem dX12_feed_30 : decode cX12_feed 30 = .ok (.if_icmp .ge 61, 3) := by decide +kernel
theorem dX12_feed_33 : decode cX12_feed 33 = .ok (.aload_n 0, 1) := by decide +kernel
theorem dX12_feed_34 : decode cX12_feed 34 = .ok (.getfield 9, 3) := by decide +kernel
theorem dX12_feed_37 : decode cX12_feed 37 = .ok (.aload_n 0, 1) := by decide +kernel
theorem dX12_feed_38 : decode cX12_feed 38 = .ok (.getfield 13, 3) := by decide +kernel
theorem dX12_feed_41 : decode cX12_feed 41 = .ok (.invokestatic 141, 3) := by decide +kernel
theorem dX12_feed_44 : decode cX12_feed 44 = .ok (.aload_n 0, 1) := by decide +kernel
theorem dX12_feed_45 : decode cX12_feed 45 = .ok (.getfield 13, 3) := by decide +kernel
theorem dX12_feed_48 : decode cX12_feed 48 = .ok (.iconst 3, 1) := by decide +kernel
theorem dX12_feed_49 : decode cX12_feed 49 = .ok (.iload 5, 2) := by decide +kernel
theorem dX12_feed_51 : decode cX12_feed 51 = .ok (.iastore, 1) := by decide +kernel
theorem dX12_feed_52 : decode cX12_feed 52 = .ok (.aload_n 0, 1) := by decide +kernel
theorem dX12_feed_53 : decode cX12_feed 53 = .ok (.getfield 13, 3) := by decide +kernel
theorem dX12_feed_56 : decode cX12_feed 56 = .ok (.iload_n 1, 1) := by decide +kernel
theorem dX12_feed_57 : decode cX12_feed 57 = .ok (.invokestatic 131, 3) := by decide +kernel
theorem dX12_feed_60 : decode cX12_feed 60 = .ok (.aload_n 0, 1) := by decide +kernel
theorem dX12_feed_61 : decode cX12_feed 61 = .ok (.getfield 13, 3) := by decide +kernel
theorem dX12_feed_64 : decode cX12_feed 64 = .ok (.iconst 2, 1) := by decide +kernel
theorem dX12_feed_65 : decode cX12_feed 65 = .ok (.iaload, 1) := by decide +kernel
theorem dX12_feed_66 : decode cX12_feed 66 = .ok (.iload 4, 2) := by decide +kernel
theorem dX12_feed_68 : decode cX12_feed 68 = .ok (.if_icmp .gt 6, 3) := by decide +kernel
theorem dX12_feed_71 : decode cX12_feed 71 = .ok (.goto 14, 3) := by decide +kernel
theorem dX12_feed_74 : decode cX12_feed 74 = .ok (.iload 5, 2) := by decide +kernel
theorem dX12_feed_76 : decode cX12_feed 76 = .ok (.istore_n 3, 1) := by decide +kernel
theorem dX12_feed_77 : decode cX12_feed 77 = .ok (.aload_n 0, 1) := by decide +kernel
theorem dX12_feed_78 : decode cX12_feed 78 = .ok (.getfield 13, 3) := by decide +kernel
theorem dX12_feed_81 : decode cX12_feed 81 = .ok (.iconst 2, 1) := by decide +kernel
theorem dX12_feed_82 : decode cX12_feed 82 = .ok (.iaload, 1) := by decide +kernel
theorem dX12_feed_83 : decode cX12_feed 83 = .ok (.istore 4, 2) := by decide +kernel
theorem dX12_feed_85 : decode cX12_feed 85 = .ok (.iinc 5 1, 3) := by decide +kernel
theorem dX12_feed_88 : decode cX12_feed 88 = .ok (.goto (-62), 3) := by decide +kernel
theorem dX12_feed_91 : decode cX12_feed 91 = .ok (.iload_n 2, 1) := by decide +kernel
theorem dX12_feed_92 : decode cX12_feed 92 = .ok (.ifCond .ne 7, 3) := by decide +kernel
theorem dX12_feed_95 : decode cX12_feed 95 = .ok (.iload_n 3, 1) := by decide +kernel
theorem dX12_feed_96 : decode cX12_feed 96 = .ok (.goto 5, 3) := by decide +kernel
theorem dX12_feed_99 : decode cX12_feed 99 = .ok (.iload 4, 2) := by decide +kernel
theorem dX12_feed_101 : decode cX12_feed 101 = .ok (.ireturn, 1) := by decide +kernel
theorem dX12_empty_0 : decode cX12_empty 0 = .ok (.iload_n 1, 1) := by decide +kernel
theorem dX12_empty_1 : decode cX12_empty 1 = .ok (.invokestatic 155, 3) := by decide +kernel
theorem dX12_empty_4 : decode cX12_empty 4 = .ok (.ifCond .ne 5, 3) := by decide +kernel
theorem dX12_empty_7 : decode cX12_empty 7 = .ok (.iconst (-1), 1) := by decide +kernel
theorem dX12_empty_8 : decode cX12_empty 8 = .ok (.ireturn, 1) := by decide +kernel
theorem dX12_empty_9 : decode cX12_empty 9 = .ok (.iconst 0, 1) := by decide +kernel
theorem dX12_empty_10 : decode cX12_empty 10 = .ok (.istore_n 2, 1) := by decide +kernel
theorem dX12_empty_11 : decode cX12_empty 11 = .ok (.iload_n 2, 1) := by decide +kernel
theorem dX12_empty_12 : decode cX12_empty 12 = .ok (.bipush 10, 2) := by decide +kernel
theorem dX12_empty_14 : decode cX12_empty 14 = .ok (.if_icmp .ge 47, 3) := by decide +kernel
theorem dX12_empty_17 : decode cX12_empty 17 = .ok (.aload_n 0, 1) := by decide +kernel
theorem dX12_empty_18 : decode cX12_empty 18 = .ok (.getfield 9, 3) := by decide +kernel
theorem dX12_empty_21 : decode cX12_empty 21 = .ok (.aload_n 0, 1) := by decide +kernel
theorem dX12_empty_22 : decode cX12_empty 22 = .ok (.getfield 13, 3) := by decide +kernel
theorem dX12_empty_25 : decode cX12_empty 25 = .ok (.invokestatic 141, 3) := by decide +kernel
theorem dX12_empty_28 : decode cX12_empty 28 = .ok (.aload_n 0, 1) := by decide +kernel
theorem dX12_empty_29 : decode cX12_empty 29 = .ok (.getfield 13, 3) := by decide +kernel
theorem dX12_empty_32 : decode cX12_empty 32 = .ok (.iconst 4, 1) := by decide +kernel
theorem dX12_empty_33 : decode cX12_empty 33 = .ok (.iload_n 2, 1) := by decide +kernel
theorem dX12_empty_34 : decode cX12_empty 34 = .ok (.iastore, 1) := by decide +kernel
theorem dX12_empty_35 : decode cX12_empty 35 = .ok (.aload_n 0, 1) := by decide +kernel
theorem dX12_empty_36 : decode cX12_empty 36 = .ok (.getfield 13, 3) := by decide +kernel
theorem dX12_empty_39 : decode cX12_empty 39 = .ok (.iload_n 1, 1) := by decide +kernel
theorem dX12_empty_40 : decode cX12_empty 40 = .ok (.invokestatic 131, 3) := by decide +kernel
theorem dX12_empty_43 : decode cX12_empty 43 = .ok (.aload_n 0, 1) := by decide +kernel
theorem dX12_empty_44 : decode cX12_empty 44 = .ok (.getfield 13, 3) := by decide +kernel
theorem dX12_empty_47 : decode cX12_empty 47 = .ok (.invokestatic 162, 3) := by decide +kernel
theorem dX12_empty_50 : decode cX12_empty 50 = .ok (.ifCond .ne 5, 3) := by decide +kernel
theorem dX12_empty_53 : decode cX12_empty 53 = .ok (.iload_n 2, 1) := by decide +kernel
theorem dX12_empty_54 : decode cX12_empty 54 = .ok (.ireturn, 1) := by decide +kernel
theorem dX12_empty_55 : decode cX12_empty 55 = .ok (.iinc 2 1, 3) := by decide +kernel
theorem dX12_empty_58 : decode cX12_empty 58 = .ok (.goto (-47), 3) := by decide +kernel
theorem dX12_empty_61 : decode cX12_empty 61 = .ok (.bipush (-4), 2) := by decide +kernel
theorem dX12_empty_63 : decode cX12_empty 63 = .ok (.ireturn, 1) := by decide +kernel
theorem dX12_hasLeftNext_0 : decode cX12_hasLeftNext 0 = .ok (.aload_n 0, 1) := by decide +kernel
theorem dX12_hasLeftNext_1 : decode cX12_hasLeftNext 1 = .ok (.getfield 13, 3) := by decide +kernel
theorem dX12_hasLeftNext_4 : decode cX12_hasLeftNext 4 = .ok (.iconst 0, 1) := by decide +kernel
theorem dX12_hasLeftNext_5 : decode cX12_hasLeftNext 5 = .ok (.invokestatic 82, 3) := by decide +kernel
theorem dX12_hasLeftNext_8 : decode cX12_hasLeftNext 8 = .ok (.aload_n 0, 1) := by decide +kernel
theorem dX12_hasLeftNext_9 : decode cX12_hasLeftNext 9 = .ok (.getfield 13, 3) := by decide +kernel
theorem dX12_hasLeftNext_12 : decode cX12_hasLeftNext 12 = .ok (.iload_n 1, 1) := by decide +kernel
theorem dX12_hasLeftNext_13 : decode cX12_hasLeftNext 13 = .ok (.invokestatic 61, 3) := by decide +kernel
theorem dX12_hasLeftNext_16 : decode cX12_hasLeftNext 16 = .ok (.ifCond .ne 7, 3) := by decide +kernel
theorem dX12_hasLeftNext_19 : decode cX12_hasLeftNext 19 = .ok (.iconst 1, 1) := by decide +kernel
theorem dX12_hasLeftNext_20 : decode cX12_hasLeftNext 20 = .ok (.goto 4, 3) := by decide +kernel
theorem dX12_hasLeftNext_23 : decode cX12_hasLeftNext 23 = .ok (.iconst 0, 1) := by decide +kernel
theorem dX12_hasLeftNext_24 : decode cX12_hasLeftNext 24 = .ok (.ireturn, 1) := by decide +kernel
theorem dX12_tell_0 : decode cX12_tell 0 = .ok (.aload_n 0, 1) := by decide +kernel
theorem dX12_tell_1 : decode cX12_tell 1 = .ok (.iload_n 1, 1) := by decide +kernel
theorem dX12_tell_2 : decode cX12_tell 2 = .ok (.invokevirtual 113, 3) := by decide +kernel
theorem dX12_tell_5 : decode cX12_tell 5 = .ok (.ifCond .ne 5, 3) := by decide +kernel
theorem dX12_tell_8 : decode cX12_tell 8 = .ok (.iconst (-1), 1) := by decide +kernel
theorem dX12_tell_9 : decode cX12_tell 9 = .ok (.ireturn, 1) := by decide +kernel
theorem dX12_tell_10 : decode cX12_tell 10 = .ok (.aload_n 0, 1) := by decide +kernel
theorem dX12_tell_11 : decode cX12_tell 11 = .ok (.getfield 9, 3) := by decide +kernel
theorem dX12_tell_14 : decode cX12_tell 14 = .ok (.iload_n 1, 1) := by decide +kernel
theorem dX12_tell_15 : decode cX12_tell 15 = .ok (.invokestatic 61, 3) := by decide +kernel
theorem dX12_tell_18 : decode cX12_tell 18 = .ok (.ifCond .ne 6, 3) := by decide +kernel
theorem dX12_tell_21 : decode cX12_tell 21 = .ok (.bipush (-3), 2) := by decide +kernel
theorem dX12_tell_23 : decode cX12_tell 23 = .ok (.ireturn, 1) := by decide +kernel
theorem dX12_tell_24 : decode cX12_tell 24 = .ok (.iconst 0, 1) := by decide +kernel
theorem dX12_tell_25 : decode cX12_tell 25 = .ok (.istore_n 2, 1) := by decide +kernel
theorem dX12_tell_26 : decode cX12_tell 26 = .ok (.iload_n 2, 1) := by decide +kernel
theorem dX12_tell_27 : decode cX12_tell 27 = .ok (.aload_n 0, 1) := by decide +kernel
theorem dX12_tell_28 : decode cX12_tell 28 = .ok (.getfield 9, 3) := by decide +kernel
theorem dX12_tell_31 : decode cX12_tell 31 = .ok (.iload_n 1, 1) := by decide +kernel
theorem dX12_tell_32 : decode cX12_tell 32 = .ok (.iconst 4, 1) := by decide +kernel
theorem dX12_tell_33 : decode cX12_tell 33 = .ok (.invokestatic 53, 3) := by decide +kernel
theorem dX12_tell_36 : decode cX12_tell 36 = .ok (.iaload, 1) := by decide +kernel
theorem dX12_tell_37 : decode cX12_tell 37 = .ok (.if_icmp .gt 51, 3) := by decide +kernel
theorem dX12_tell_40 : decode cX12_tell 40 = .ok (.aload_n 0, 1) := by decide +kernel
theorem dX12_tell_41 : decode cX12_tell 41 = .ok (.getfield 9, 3) := by decide +kernel
theorem dX12_tell_44 : decode cX12_tell 44 = .ok (.aload_n 0, 1) := by decide +kernel
theorem dX12_tell_45 : decode cX12_tell 45 = .ok (.getfield 13, 3) := by decide +kernel
theorem dX12_tell_48 : decode cX12_tell 48 = .ok (.invokestatic 141, 3) := by decide +kernel
theorem dX12_tell_51 : decode cX12_tell 51 = .ok (.iconst 0, 1) := by decide +kernel
theorem dX12_tell_52 : decode cX12_tell 52 = .ok (.istore_n 3, 1) := by decide +kernel
theorem dX12_tell_53 : decode cX12_tell 53 = .ok (.iload_n 3, 1) := by decide +kernel
theorem dX12_tell_54 : decode cX12_tell 54 = .ok (.iload_n 2, 1) := by decide +kernel
theorem dX12_tell_55 : decode cX12_tell 55 = .ok (.if_icmp .ge 17, 3) := by decide +kernel
theorem dX12_tell_58 : decode cX12_tell 58 = .ok (.aload_n 0, 1) := by decide +kernel
theorem dX12_tell_59 : decode cX12_tell 59 = .ok (.getfield 13, 3) := by decide +kernel
theorem dX12_tell_62 : decode cX12_tell 62 = .ok (.iload_n 1, 1) := by decide +kernel
theorem dX12_tell_63 : decode cX12_tell 63 = .ok (.invokestatic 120, 3) := by decide +kernel
theorem dX12_tell_66 : decode cX12_tell 66 = .ok (.iinc 3 1, 3) := by decide +kernel
theorem dX12_tell_69 : decode cX12_tell 69 = .ok (.goto (-16), 3) := by decide +kernel
theorem dX12_tell_72 : decode cX12_tell 72 = .ok (.aload_n 0, 1) := by decide +kernel
theorem dX12_tell_73 : decode cX12_tell 73 = .ok (.iload_n 1, 1) := by decide +kernel
theorem dX12_tell_74 : decode cX12_tell 74 = .ok (.invokevirtual 179, 3) := by decide +kernel
theorem dX12_tell_77 : decode cX12_tell 77 = .ok (.ifCond .eq 5, 3) := by decide +kernel
theorem dX12_tell_80 : decode cX12_tell 80 = .ok (.iload_n 2, 1) := by decide +kernel
theorem dX12_tell_81 : decode cX12_tell 81 = .ok (.ireturn, 1) := by decide +kernel
theorem dX12_tell_82 : decode cX12_tell 82 = .ok (.iinc 2 1, 3) := by decide +kernel
theorem dX12_tell_85 : decode cX12_tell 85 = .ok (.goto (-59), 3) := by decide +kernel
theorem dX12_tell_88 : decode cX12_tell 88 = .ok (.bipush (-4), 2) := by decide +kernel
theorem dX12_tell_90 : decode cX12_tell 90 = .ok (.ireturn, 1) := by decide +kernel
theorem dX12_loan_0 : decode cX12_loan 0 = .ok (.aload_n 0, 1) := by decide +kernel
theorem dX12_loan_1 : decode cX12_loan 1 = .ok (.iload_n 1, 1) := by decide +kernel
theorem dX12_loan_2 : decode cX12_loan 2 = .ok (.invokevirtual 113, 3) := by decide +kernel
theorem dX12_loan_5 : decode cX12_loan 5 = .ok (.ifCond .eq 16, 3) := by decide +kernel
theorem dX12_loan_8 : decode cX12_loan 8 = .ok (.aload_n 0, 1) := by decide +kernel
theorem dX12_loan_9 : decode cX12_loan 9 = .ok (.iload_n 2, 1) := by decide +kernel
theorem dX12_loan_10 : decode cX12_loan 10 = .ok (.invokevirtual 113, 3) := by decide +kernel
theorem dX12_loan_13 : decode cX12_loan 13 = .ok (.ifCond .eq 8, 3) := by decide +kernel
theorem dX12_loan_16 : decode cX12_loan 16 = .ok (.iload_n 1, 1) := by decide +kernel
theorem dX12_loan_17 : decode cX12_loan 17 = .ok (.iload_n 2, 1) := by decide +kernel
theorem dX12_loan_18 : decode cX12_loan 18 = .ok (.if_icmp .ne 5, 3) := by decide +kernel
theorem dX12_loan_21 : decode cX12_loan 21 = .ok (.iconst (-1), 1) := by decide +kernel
theorem dX12_loan_22 : decode cX12_loan 22 = .ok (.ireturn, 1) := by decide +kernel
theorem dX12_loan_23 : decode cX12_loan 23 = .ok (.aload_n 0, 1) := by decide +kernel
theorem dX12_loan_24 : decode cX12_loan 24 = .ok (.getfield 9, 3) := by decide +kernel
theorem dX12_loan_27 : decode cX12_loan 27 = .ok (.iload_n 1, 1) := by decide +kernel
theorem dX12_loan_28 : decode cX12_loan 28 = .ok (.invokestatic 61, 3) := by decide +kernel
theorem dX12_loan_31 : decode cX12_loan 31 = .ok (.ifCond .eq 14, 3) := by decide +kernel
theorem dX12_loan_34 : decode cX12_loan 34 = .ok (.aload_n 0, 1) := by decide +kernel
theorem dX12_loan_35 : decode cX12_loan 35 = .ok (.getfield 9, 3) := by decide +kernel
theorem dX12_loan_38 : decode cX12_loan 38 = .ok (.iload_n 2, 1) := by decide +kernel
theorem dX12_loan_39 : decode cX12_loan 39 = .ok (.invokestatic 61, 3) := by decide +kernel
theorem dX12_loan_42 : decode cX12_loan 42 = .ok (.ifCond .ne 6, 3) := by decide +kernel
theorem dX12_loan_45 : decode cX12_loan 45 = .ok (.bipush (-3), 2) := by decide +kernel
theorem dX12_loan_47 : decode cX12_loan 47 = .ok (.ireturn, 1) := by decide +kernel
theorem dX12_loan_48 : decode cX12_loan 48 = .ok (.iconst 0, 1) := by decide +kernel
theorem dX12_loan_49 : decode cX12_loan 49 = .ok (.istore_n 3, 1) := by decide +kernel
theorem dX12_loan_50 : decode cX12_loan 50 = .ok (.iload_n 3, 1) := by decide +kernel
theorem dX12_loan_51 : decode cX12_loan 51 = .ok (.bipush 20, 2) := by decide +kernel
theorem dX12_loan_53 : decode cX12_loan 53 = .ok (.if_icmp .gt 56, 3) := by decide +kernel
theorem dX12_loan_56 : decode cX12_loan 56 = .ok (.aload_n 0, 1) := by decide +kernel
theorem dX12_loan_57 : decode cX12_loan 57 = .ok (.getfield 9, 3) := by decide +kernel
theorem dX12_loan_60 : decode cX12_loan 60 = .ok (.aload_n 0, 1) := by decide +kernel
theorem dX12_loan_61 : decode cX12_loan 61 = .ok (.getfield 13, 3) := by decide +kernel
theorem dX12_loan_64 : decode cX12_loan 64 = .ok (.invokestatic 141, 3) := by decide +kernel
theorem dX12_loan_67 : decode cX12_loan 67 = .ok (.aload_n 0, 1) := by decide +kernel
theorem dX12_loan_68 : decode cX12_loan 68 = .ok (.getfield 13, 3) := by decide +kernel
theorem dX12_loan_71 : decode cX12_loan 71 = .ok (.iload_n 1, 1) := by decide +kernel
theorem dX12_loan_72 : decode cX12_loan 72 = .ok (.iload_n 2, 1) := by decide +kernel
theorem dX12_loan_73 : decode cX12_loan 73 = .ok (.iload_n 3, 1) := by decide +kernel
theorem dX12_loan_74 : decode cX12_loan 74 = .ok (.invokestatic 123, 3) := by decide +kernel
theorem dX12_loan_77 : decode cX12_loan 77 = .ok (.ifCond .ne 6, 3) := by decide +kernel
theorem dX12_loan_80 : decode cX12_loan 80 = .ok (.goto 23, 3) := by decide +kernel
theorem dX12_loan_83 : decode cX12_loan 83 = .ok (.aload_n 0, 1) := by decide +kernel
theorem dX12_loan_84 : decode cX12_loan 84 = .ok (.getfield 13, 3) := by decide +kernel
theorem dX12_loan_87 : decode cX12_loan 87 = .ok (.iload_n 1, 1) := by decide +kernel
theorem dX12_loan_88 : decode cX12_loan 88 = .ok (.iload_n 2, 1) := by decide +kernel
theorem dX12_loan_89 : decode cX12_loan 89 = .ok (.iload_n 3, 1) := by decide +kernel
theorem dX12_loan_90 : decode cX12_loan 90 = .ok (.invokestatic 127, 3) := by decide +kernel
theorem dX12_loan_93 : decode cX12_loan 93 = .ok (.aload_n 0, 1) := by decide +kernel
theorem dX12_loan_94 : decode cX12_loan 94 = .ok (.iload_n 1, 1) := by decide +kernel
theorem dX12_loan_95 : decode cX12_loan 95 = .ok (.invokevirtual 179, 3) := by decide +kernel
theorem dX12_loan_98 : decode cX12_loan 98 = .ok (.ifCond .eq 5, 3) := by decide +kernel
theorem dX12_loan_101 : decode cX12_loan 101 = .ok (.iload_n 3, 1) := by decide +kernel
theorem dX12_loan_102 : decode cX12_loan 102 = .ok (.ireturn, 1) := by decide +kernel
theorem dX12_loan_103 : decode cX12_loan 103 = .ok (.iinc 3 1, 3) := by decide +kernel
theorem dX12_loan_106 : decode cX12_loan 106 = .ok (.goto (-56), 3) := by decide +kernel
theorem dX12_loan_109 : decode cX12_loan 109 = .ok (.bipush (-4), 2) := by decide +kernel
theorem dX12_loan_111 : decode cX12_loan 111 = .ok (.ireturn, 1) := by decide +kernel
theorem dX12_waits_0 : decode cX12_waits 0 = .ok (.iload_n 1, 1) := by decide +kernel
theorem dX12_waits_1 : decode cX12_waits 1 = .ok (.invokestatic 155, 3) := by decide +kernel
theorem dX12_waits_4 : decode cX12_waits 4 = .ok (.ifCond .ne 5, 3) := by decide +kernel
theorem dX12_waits_7 : decode cX12_waits 7 = .ok (.iconst (-1), 1) := by decide +kernel
theorem dX12_waits_8 : decode cX12_waits 8 = .ok (.ireturn, 1) := by decide +kernel
theorem dX12_waits_9 : decode cX12_waits 9 = .ok (.aload_n 0, 1) := by decide +kernel
theorem dX12_waits_10 : decode cX12_waits 10 = .ok (.iload_n 1, 1) := by decide +kernel
theorem dX12_waits_11 : decode cX12_waits 11 = .ok (.invokevirtual 158, 3) := by decide +kernel
theorem dX12_waits_14 : decode cX12_waits 14 = .ok (.aload_n 0, 1) := by decide +kernel
theorem dX12_waits_15 : decode cX12_waits 15 = .ok (.getfield 13, 3) := by decide +kernel
theorem dX12_waits_18 : decode cX12_waits 18 = .ok (.iconst 2, 1) := by decide +kernel
theorem dX12_waits_19 : decode cX12_waits 19 = .ok (.iaload, 1) := by decide +kernel
theorem dX12_waits_20 : decode cX12_waits 20 = .ok (.istore_n 2, 1) := by decide +kernel
theorem dX12_waits_21 : decode cX12_waits 21 = .ok (.bipush (-4), 2) := by decide +kernel
theorem dX12_waits_23 : decode cX12_waits 23 = .ok (.istore_n 3, 1) := by decide +kernel
theorem dX12_waits_24 : decode cX12_waits 24 = .ok (.iconst 0, 1) := by decide +kernel
theorem dX12_waits_25 : decode cX12_waits 25 = .ok (.istore 4, 2) := by decide +kernel
theorem dX12_waits_27 : decode cX12_waits 27 = .ok (.iload 4, 2) := by decide +kernel
theorem dX12_waits_29 : decode cX12_waits 29 = .ok (.aload_n 0, 1) := by decide +kernel
theorem dX12_waits_30 : decode cX12_waits 30 = .ok (.getfield 9, 3) := by decide +kernel
theorem dX12_waits_33 : decode cX12_waits 33 = .ok (.iconst 0, 1) := by decide +kernel
theorem dX12_waits_34 : decode cX12_waits 34 = .ok (.iaload, 1) := by decide +kernel
theorem dX12_waits_35 : decode cX12_waits 35 = .ok (.if_icmp .ge 81, 3) := by decide +kernel
theorem dX12_waits_38 : decode cX12_waits 38 = .ok (.aload_n 0, 1) := by decide +kernel
theorem dX12_waits_39 : decode cX12_waits 39 = .ok (.getfield 9, 3) := by decide +kernel
theorem dX12_waits_42 : decode cX12_waits 42 = .ok (.iload 4, 2) := by decide +kernel
theorem dX12_waits_44 : decode cX12_waits 44 = .ok (.invokestatic 61, 3) := by decide +kernel
theorem dX12_waits_47 : decode cX12_waits 47 = .ok (.ifCond .ne 6, 3) := by decide +kernel
theorem dX12_waits_50 : decode cX12_waits 50 = .ok (.goto 60, 3) := by decide +kernel
theorem dX12_waits_53 : decode cX12_waits 53 = .ok (.aload_n 0, 1) := by decide +kernel
theorem dX12_waits_54 : decode cX12_waits 54 = .ok (.getfield 9, 3) := by decide +kernel
theorem dX12_waits_57 : decode cX12_waits 57 = .ok (.aload_n 0, 1) := by decide +kernel
theorem dX12_waits_58 : decode cX12_waits 58 = .ok (.getfield 13, 3) := by decide +kernel
theorem dX12_waits_61 : decode cX12_waits 61 = .ok (.invokestatic 141, 3) := by decide +kernel
theorem dX12_waits_64 : decode cX12_waits 64 = .ok (.aload_n 0, 1) := by decide +kernel
theorem dX12_waits_65 : decode cX12_waits 65 = .ok (.getfield 13, 3) := by decide +kernel
theorem dX12_waits_68 : decode cX12_waits 68 = .ok (.iload 4, 2) := by decide +kernel
theorem dX12_waits_70 : decode cX12_waits 70 = .ok (.iconst 5, 1) := by decide +kernel
theorem dX12_waits_71 : decode cX12_waits 71 = .ok (.invokestatic 53, 3) := by decide +kernel
theorem dX12_waits_74 : decode cX12_waits 74 = .ok (.dup2, 1) := by decide +kernel
theorem dX12_waits_75 : decode cX12_waits 75 = .ok (.iaload, 1) := by decide +kernel
theorem dX12_waits_76 : decode cX12_waits 76 = .ok (.iconst 5, 1) := by decide +kernel
theorem dX12_waits_77 : decode cX12_waits 77 = .ok (.iadd, 1) := by decide +kernel
theorem dX12_waits_78 : decode cX12_waits 78 = .ok (.iastore, 1) := by decide +kernel
theorem dX12_waits_79 : decode cX12_waits 79 = .ok (.aload_n 0, 1) := by decide +kernel
theorem dX12_waits_80 : decode cX12_waits 80 = .ok (.getfield 13, 3) := by decide +kernel
theorem dX12_waits_83 : decode cX12_waits 83 = .ok (.iload_n 1, 1) := by decide +kernel
theorem dX12_waits_84 : decode cX12_waits 84 = .ok (.invokestatic 131, 3) := by decide +kernel
theorem dX12_waits_87 : decode cX12_waits 87 = .ok (.aload_n 0, 1) := by decide +kernel
theorem dX12_waits_88 : decode cX12_waits 88 = .ok (.getfield 13, 3) := by decide +kernel
theorem dX12_waits_91 : decode cX12_waits 91 = .ok (.iconst 2, 1) := by decide +kernel
theorem dX12_waits_92 : decode cX12_waits 92 = .ok (.iaload, 1) := by decide +kernel
theorem dX12_waits_93 : decode cX12_waits 93 = .ok (.iload_n 2, 1) := by decide +kernel
theorem dX12_waits_94 : decode cX12_waits 94 = .ok (.if_icmp .gt 6, 3) := by decide +kernel
theorem dX12_waits_97 : decode cX12_waits 97 = .ok (.goto 13, 3) := by decide +kernel
theorem dX12_waits_100 : decode cX12_waits 100 = .ok (.iload 4, 2) := by decide +kernel
theorem dX12_waits_102 : decode cX12_waits 102 = .ok (.istore_n 3, 1) := by decide +kernel
theorem dX12_waits_103 : decode cX12_waits 103 = .ok (.aload_n 0, 1) := by decide +kernel
theorem dX12_waits_104 : decode cX12_waits 104 = .ok (.getfield 13, 3) := by decide +kernel
theorem dX12_waits_107 : decode cX12_waits 107 = .ok (.iconst 2, 1) := by decide +kernel
theorem dX12_waits_108 : decode cX12_waits 108 = .ok (.iaload, 1) := by decide +kernel
theorem dX12_waits_109 : decode cX12_waits 109 = .ok (.istore_n 2, 1) := by decide +kernel
theorem dX12_waits_110 : decode cX12_waits 110 = .ok (.iinc 4 1, 3) := by decide +kernel
theorem dX12_waits_113 : decode cX12_waits 113 = .ok (.goto (-86), 3) := by decide +kernel
theorem dX12_waits_116 : decode cX12_waits 116 = .ok (.iload_n 3, 1) := by decide +kernel
theorem dX12_waits_117 : decode cX12_waits 117 = .ok (.ireturn, 1) := by decide +kernel
theorem dX12_leftBy_0 : decode cX12_leftBy 0 = .ok (.aload_n 0, 1) := by decide +kernel
theorem dX12_leftBy_1 : decode cX12_leftBy 1 = .ok (.getfield 9, 3) := by decide +kernel
theorem dX12_leftBy_4 : decode cX12_leftBy 4 = .ok (.aload_n 0, 1) := by decide +kernel
theorem dX12_leftBy_5 : decode cX12_leftBy 5 = .ok (.getfield 13, 3) := by decide +kernel
theorem dX12_leftBy_8 : decode cX12_leftBy 8 = .ok (.invokestatic 141, 3) := by decide +kernel
theorem dX12_leftBy_11 : decode cX12_leftBy 11 = .ok (.iload_n 3, 1) := by decide +kernel
theorem dX12_leftBy_12 : decode cX12_leftBy 12 = .ok (.ifCond .le 28, 3) := by decide +kernel
theorem dX12_leftBy_15 : decode cX12_leftBy 15 = .ok (.aload_n 0, 1) := by decide +kernel
theorem dX12_leftBy_16 : decode cX12_leftBy 16 = .ok (.getfield 13, 3) := by decide +kernel
theorem dX12_leftBy_19 : decode cX12_leftBy 19 = .ok (.iload_n 1, 1) := by decide +kernel
theorem dX12_leftBy_20 : decode cX12_leftBy 20 = .ok (.iload_n 2, 1) := by decide +kernel
theorem dX12_leftBy_21 : decode cX12_leftBy 21 = .ok (.iload_n 3, 1) := by decide +kernel
theorem dX12_leftBy_22 : decode cX12_leftBy 22 = .ok (.invokestatic 123, 3) := by decide +kernel
theorem dX12_leftBy_25 : decode cX12_leftBy 25 = .ok (.ifCond .ne 5, 3) := by decide +kernel
theorem dX12_leftBy_28 : decode cX12_leftBy 28 = .ok (.iconst (-1), 1) := by decide +kernel
theorem dX12_leftBy_29 : decode cX12_leftBy 29 = .ok (.ireturn, 1) := by decide +kernel
theorem dX12_leftBy_30 : decode cX12_leftBy 30 = .ok (.aload_n 0, 1) := by decide +kernel
theorem dX12_leftBy_31 : decode cX12_leftBy 31 = .ok (.getfield 13, 3) := by decide +kernel
theorem dX12_leftBy_34 : decode cX12_leftBy 34 = .ok (.iload_n 1, 1) := by decide +kernel
theorem dX12_leftBy_35 : decode cX12_leftBy 35 = .ok (.iload_n 2, 1) := by decide +kernel
theorem dX12_leftBy_36 : decode cX12_leftBy 36 = .ok (.iload_n 3, 1) := by decide +kernel
theorem dX12_leftBy_37 : decode cX12_leftBy 37 = .ok (.invokestatic 127, 3) := by decide +kernel
theorem dX12_leftBy_40 : decode cX12_leftBy 40 = .ok (.aload_n 0, 1) := by decide +kernel
theorem dX12_leftBy_41 : decode cX12_leftBy 41 = .ok (.getfield 13, 3) := by decide +kernel
theorem dX12_leftBy_44 : decode cX12_leftBy 44 = .ok (.iconst 0, 1) := by decide +kernel
theorem dX12_leftBy_45 : decode cX12_leftBy 45 = .ok (.invokestatic 82, 3) := by decide +kernel
theorem dX12_leftBy_48 : decode cX12_leftBy 48 = .ok (.aload_n 0, 1) := by decide +kernel
theorem dX12_leftBy_49 : decode cX12_leftBy 49 = .ok (.getfield 13, 3) := by decide +kernel
theorem dX12_leftBy_52 : decode cX12_leftBy 52 = .ok (.iload_n 1, 1) := by decide +kernel
theorem dX12_leftBy_53 : decode cX12_leftBy 53 = .ok (.invokestatic 61, 3) := by decide +kernel
theorem dX12_leftBy_56 : decode cX12_leftBy 56 = .ok (.ifCond .eq 7, 3) := by decide +kernel
theorem dX12_leftBy_59 : decode cX12_leftBy 59 = .ok (.iconst 0, 1) := by decide +kernel
theorem dX12_leftBy_60 : decode cX12_leftBy 60 = .ok (.goto 4, 3) := by decide +kernel
theorem dX12_leftBy_63 : decode cX12_leftBy 63 = .ok (.iconst 1, 1) := by decide +kernel
theorem dX12_leftBy_64 : decode cX12_leftBy 64 = .ok (.iload_n 1, 1) := by decide +kernel
theorem dX12_leftBy_65 : decode cX12_leftBy 65 = .ok (.iload_n 2, 1) := by decide +kernel
theorem dX12_leftBy_66 : decode cX12_leftBy 66 = .ok (.if_icmp .eq 14, 3) := by decide +kernel
theorem dX12_leftBy_69 : decode cX12_leftBy 69 = .ok (.aload_n 0, 1) := by decide +kernel
theorem dX12_leftBy_70 : decode cX12_leftBy 70 = .ok (.getfield 13, 3) := by decide +kernel
theorem dX12_leftBy_73 : decode cX12_leftBy 73 = .ok (.iload_n 2, 1) := by decide +kernel
theorem dX12_leftBy_74 : decode cX12_leftBy 74 = .ok (.invokestatic 61, 3) := by decide +kernel
theorem dX12_leftBy_77 : decode cX12_leftBy 77 = .ok (.ifCond .eq 7, 3) := by decide +kernel
theorem dX12_leftBy_80 : decode cX12_leftBy 80 = .ok (.iconst 0, 1) := by decide +kernel
theorem dX12_leftBy_81 : decode cX12_leftBy 81 = .ok (.goto 4, 3) := by decide +kernel
theorem dX12_leftBy_84 : decode cX12_leftBy 84 = .ok (.iconst 1, 1) := by decide +kernel
theorem dX12_leftBy_85 : decode cX12_leftBy 85 = .ok (.iadd, 1) := by decide +kernel
theorem dX12_leftBy_86 : decode cX12_leftBy 86 = .ok (.ireturn, 1) := by decide +kernel
theorem dX12_pairOf_0 : decode cX12_pairOf 0 = .ok (.aload_n 0, 1) := by decide +kernel
theorem dX12_pairOf_1 : decode cX12_pairOf 1 = .ok (.iload_n 1, 1) := by decide +kernel
theorem dX12_pairOf_2 : decode cX12_pairOf 2 = .ok (.iload_n 2, 1) := by decide +kernel
theorem dX12_pairOf_3 : decode cX12_pairOf 3 = .ok (.iconst 5, 1) := by decide +kernel
theorem dX12_pairOf_4 : decode cX12_pairOf 4 = .ok (.invokevirtual 182, 3) := by decide +kernel
theorem dX12_pairOf_7 : decode cX12_pairOf 7 = .ok (.istore_n 3, 1) := by decide +kernel
theorem dX12_pairOf_8 : decode cX12_pairOf 8 = .ok (.aload_n 0, 1) := by decide +kernel
theorem dX12_pairOf_9 : decode cX12_pairOf 9 = .ok (.iload_n 2, 1) := by decide +kernel
theorem dX12_pairOf_10 : decode cX12_pairOf 10 = .ok (.iload_n 1, 1) := by decide +kernel
theorem dX12_pairOf_11 : decode cX12_pairOf 11 = .ok (.iconst 5, 1) := by decide +kernel
theorem dX12_pairOf_12 : decode cX12_pairOf 12 = .ok (.invokevirtual 182, 3) := by decide +kernel
theorem dX12_pairOf_15 : decode cX12_pairOf 15 = .ok (.istore 4, 2) := by decide +kernel
theorem dX12_pairOf_17 : decode cX12_pairOf 17 = .ok (.iload_n 3, 1) := by decide +kernel
theorem dX12_pairOf_18 : decode cX12_pairOf 18 = .ok (.iload 4, 2) := by decide +kernel
theorem dX12_pairOf_20 : decode cX12_pairOf 20 = .ok (.if_icmp .le 7, 3) := by decide +kernel
theorem dX12_pairOf_23 : decode cX12_pairOf 23 = .ok (.iload_n 3, 1) := by decide +kernel
theorem dX12_pairOf_24 : decode cX12_pairOf 24 = .ok (.goto 5, 3) := by decide +kernel
theorem dX12_pairOf_27 : decode cX12_pairOf 27 = .ok (.iload 4, 2) := by decide +kernel
theorem dX12_pairOf_29 : decode cX12_pairOf 29 = .ok (.ireturn, 1) := by decide +kernel
theorem dX12_matches_0 : decode cX12_matches 0 = .ok (.aload_n 0, 1) := by decide +kernel
theorem dX12_matches_1 : decode cX12_matches 1 = .ok (.getfield 9, 3) := by decide +kernel
theorem dX12_matches_4 : decode cX12_matches 4 = .ok (.invokestatic 162, 3) := by decide +kernel
theorem dX12_matches_7 : decode cX12_matches 7 = .ok (.istore_n 1, 1) := by decide +kernel
theorem dX12_matches_8 : decode cX12_matches 8 = .ok (.iconst 0, 1) := by decide +kernel
theorem dX12_matches_9 : decode cX12_matches 9 = .ok (.istore_n 2, 1) := by decide +kernel
theorem dX12_matches_10 : decode cX12_matches 10 = .ok (.iload_n 2, 1) := by decide +kernel
theorem dX12_matches_11 : decode cX12_matches 11 = .ok (.aload_n 0, 1) := by decide +kernel
theorem dX12_matches_12 : decode cX12_matches 12 = .ok (.getfield 9, 3) := by decide +kernel
theorem dX12_matches_15 : decode cX12_matches 15 = .ok (.iconst 0, 1) := by decide +kernel
theorem dX12_matches_16 : decode cX12_matches 16 = .ok (.iaload, 1) := by decide +kernel
theorem dX12_matches_17 : decode cX12_matches 17 = .ok (.if_icmp .ge 79, 3) := by decide +kernel
theorem dX12_matches_20 : decode cX12_matches 20 = .ok (.iconst 0, 1) := by decide +kernel
theorem dX12_matches_21 : decode cX12_matches 21 = .ok (.istore_n 3, 1) := by decide +kernel
theorem dX12_matches_22 : decode cX12_matches 22 = .ok (.iload_n 3, 1) := by decide +kernel
theorem dX12_matches_23 : decode cX12_matches 23 = .ok (.aload_n 0, 1) := by decide +kernel
theorem dX12_matches_24 : decode cX12_matches 24 = .ok (.getfield 9, 3) := by decide +kernel
theorem dX12_matches_27 : decode cX12_matches 27 = .ok (.iconst 0, 1) := by decide +kernel
theorem dX12_matches_28 : decode cX12_matches 28 = .ok (.iaload, 1) := by decide +kernel
theorem dX12_matches_29 : decode cX12_matches 29 = .ok (.if_icmp .ge 61, 3) := by decide +kernel
theorem dX12_matches_32 : decode cX12_matches 32 = .ok (.aload_n 0, 1) := by decide +kernel
theorem dX12_matches_33 : decode cX12_matches 33 = .ok (.getfield 25, 3) := by decide +kernel
theorem dX12_matches_36 : decode cX12_matches 36 = .ok (.bipush 7, 2) := by decide +kernel
theorem dX12_matches_38 : decode cX12_matches 38 = .ok (.iload_n 2, 1) := by decide +kernel
theorem dX12_matches_39 : decode cX12_matches 39 = .ok (.imul, 1) := by decide +kernel
theorem dX12_matches_40 : decode cX12_matches 40 = .ok (.iload_n 3, 1) := by decide +kernel
theorem dX12_matches_41 : decode cX12_matches 41 = .ok (.iadd, 1) := by decide +kernel
theorem dX12_matches_42 : decode cX12_matches 42 = .ok (.iload_n 1, 1) := by decide +kernel
theorem dX12_matches_43 : decode cX12_matches 43 = .ok (.iload_n 2, 1) := by decide +kernel
theorem dX12_matches_44 : decode cX12_matches 44 = .ok (.invokestatic 68, 3) := by decide +kernel
theorem dX12_matches_47 : decode cX12_matches 47 = .ok (.ifCond .eq 11, 3) := by decide +kernel
theorem dX12_matches_50 : decode cX12_matches 50 = .ok (.iload_n 1, 1) := by decide +kernel
theorem dX12_matches_51 : decode cX12_matches 51 = .ok (.iload_n 3, 1) := by decide +kernel
theorem dX12_matches_52 : decode cX12_matches 52 = .ok (.invokestatic 68, 3) := by decide +kernel
theorem dX12_matches_55 : decode cX12_matches 55 = .ok (.ifCond .ne 7, 3) := by decide +kernel
theorem dX12_matches_58 : decode cX12_matches 58 = .ok (.iconst (-1), 1) := by decide +kernel
theorem dX12_matches_59 : decode cX12_matches 59 = .ok (.goto 24, 3) := by decide +kernel
theorem dX12_matches_62 : decode cX12_matches 62 = .ok (.iload_n 2, 1) := by decide +kernel
theorem dX12_matches_63 : decode cX12_matches 63 = .ok (.iload_n 3, 1) := by decide +kernel
theorem dX12_matches_64 : decode cX12_matches 64 = .ok (.if_icmp .ne 13, 3) := by decide +kernel
theorem dX12_matches_67 : decode cX12_matches 67 = .ok (.aload_n 0, 1) := by decide +kernel
theorem dX12_matches_68 : decode cX12_matches 68 = .ok (.iload_n 2, 1) := by decide +kernel
theorem dX12_matches_69 : decode cX12_matches 69 = .ok (.iload_n 2, 1) := by decide +kernel
theorem dX12_matches_70 : decode cX12_matches 70 = .ok (.iconst 0, 1) := by decide +kernel
theorem dX12_matches_71 : decode cX12_matches 71 = .ok (.invokevirtual 182, 3) := by decide +kernel
theorem dX12_matches_74 : decode cX12_matches 74 = .ok (.goto 9, 3) := by decide +kernel
theorem dX12_matches_77 : decode cX12_matches 77 = .ok (.aload_n 0, 1) := by decide +kernel
theorem dX12_matches_78 : decode cX12_matches 78 = .ok (.iload_n 2, 1) := by decide +kernel
theorem dX12_matches_79 : decode cX12_matches 79 = .ok (.iload_n 3, 1) := by decide +kernel
theorem dX12_matches_80 : decode cX12_matches 80 = .ok (.invokevirtual 185, 3) := by decide +kernel
theorem dX12_matches_83 : decode cX12_matches 83 = .ok (.iastore, 1) := by decide +kernel
theorem dX12_matches_84 : decode cX12_matches 84 = .ok (.iinc 3 1, 3) := by decide +kernel
theorem dX12_matches_87 : decode cX12_matches 87 = .ok (.goto (-65), 3) := by decide +kernel
theorem dX12_matches_90 : decode cX12_matches 90 = .ok (.iinc 2 1, 3) := by decide +kernel
theorem dX12_matches_93 : decode cX12_matches 93 = .ok (.goto (-83), 3) := by decide +kernel
theorem dX12_matches_96 : decode cX12_matches 96 = .ok (.iconst 0, 1) := by decide +kernel
theorem dX12_matches_97 : decode cX12_matches 97 = .ok (.istore_n 2, 1) := by decide +kernel
theorem dX12_matches_98 : decode cX12_matches 98 = .ok (.iload_n 2, 1) := by decide +kernel
theorem dX12_matches_99 : decode cX12_matches 99 = .ok (.sipush 128, 3) := by decide +kernel
theorem dX12_matches_102 : decode cX12_matches 102 = .ok (.if_icmp .ge 28, 3) := by decide +kernel
theorem dX12_matches_105 : decode cX12_matches 105 = .ok (.aload_n 0, 1) := by decide +kernel
theorem dX12_matches_106 : decode cX12_matches 106 = .ok (.getfield 28, 3) := by decide +kernel
theorem dX12_matches_109 : decode cX12_matches 109 = .ok (.iload_n 2, 1) := by decide +kernel
theorem dX12_matches_110 : decode cX12_matches 110 = .ok (.iload_n 2, 1) := by decide +kernel
theorem dX12_matches_111 : decode cX12_matches 111 = .ok (.ifCond .ne 7, 3) := by decide +kernel
theorem dX12_matches_114 : decode cX12_matches 114 = .ok (.iconst 0, 1) := by decide +kernel
theorem dX12_matches_115 : decode cX12_matches 115 = .ok (.goto 8, 3) := by decide +kernel
theorem dX12_matches_118 : decode cX12_matches 118 = .ok (.aload_n 0, 1) := by decide +kernel
theorem dX12_matches_119 : decode cX12_matches 119 = .ok (.iload_n 2, 1) := by decide +kernel
theorem dX12_matches_120 : decode cX12_matches 120 = .ok (.invokevirtual 188, 3) := by decide +kernel
theorem dX12_matches_123 : decode cX12_matches 123 = .ok (.iastore, 1) := by decide +kernel
theorem dX12_matches_124 : decode cX12_matches 124 = .ok (.iinc 2 1, 3) := by decide +kernel
theorem dX12_matches_127 : decode cX12_matches 127 = .ok (.goto (-29), 3) := by decide +kernel
theorem dX12_matches_130 : decode cX12_matches 130 = .ok (.return_, 1) := by decide +kernel
theorem dX12_leastIn_0 : decode cX12_leastIn 0 = .ok (.iconst 0, 1) := by decide +kernel
theorem dX12_leastIn_1 : decode cX12_leastIn 1 = .ok (.istore_n 1, 1) := by decide +kernel
theorem dX12_leastIn_2 : decode cX12_leastIn 2 = .ok (.iload_n 0, 1) := by decide +kernel
theorem dX12_leastIn_3 : decode cX12_leastIn 3 = .ok (.iload_n 1, 1) := by decide +kernel
theorem dX12_leastIn_4 : decode cX12_leastIn 4 = .ok (.invokestatic 68, 3) := by decide +kernel
theorem dX12_leastIn_7 : decode cX12_leastIn 7 = .ok (.ifCond .ne 9, 3) := by decide +kernel
theorem dX12_leastIn_10 : decode cX12_leastIn 10 = .ok (.iinc 1 1, 3) := by decide +kernel
theorem dX12_leastIn_13 : decode cX12_leastIn 13 = .ok (.goto (-11), 3) := by decide +kernel
theorem dX12_leastIn_16 : decode cX12_leastIn 16 = .ok (.iload_n 1, 1) := by decide +kernel
theorem dX12_leastIn_17 : decode cX12_leastIn 17 = .ok (.ireturn, 1) := by decide +kernel
theorem dX12_bestOf_0 : decode cX12_bestOf 0 = .ok (.iload_n 1, 1) := by decide +kernel
theorem dX12_bestOf_1 : decode cX12_bestOf 1 = .ok (.invokestatic 191, 3) := by decide +kernel
theorem dX12_bestOf_4 : decode cX12_bestOf 4 = .ok (.istore_n 2, 1) := by decide +kernel
theorem dX12_bestOf_5 : decode cX12_bestOf 5 = .ok (.iconst (-1), 1) := by decide +kernel
theorem dX12_bestOf_6 : decode cX12_bestOf 6 = .ok (.istore_n 3, 1) := by decide +kernel
theorem dX12_bestOf_7 : decode cX12_bestOf 7 = .ok (.iload_n 2, 1) := by decide +kernel
theorem dX12_bestOf_8 : decode cX12_bestOf 8 = .ok (.istore 4, 2) := by decide +kernel
theorem dX12_bestOf_10 : decode cX12_bestOf 10 = .ok (.iload 4, 2) := by decide +kernel
theorem dX12_bestOf_12 : decode cX12_bestOf 12 = .ok (.aload_n 0, 1) := by decide +kernel
theorem dX12_bestOf_13 : decode cX12_bestOf 13 = .ok (.getfield 9, 3) := by decide +kernel
theorem dX12_bestOf_16 : decode cX12_bestOf 16 = .ok (.iconst 0, 1) := by decide +kernel
theorem dX12_bestOf_17 : decode cX12_bestOf 17 = .ok (.iaload, 1) := by decide +kernel
theorem dX12_bestOf_18 : decode cX12_bestOf 18 = .ok (.if_icmp .ge 100, 3) := by decide +kernel
theorem dX12_bestOf_21 : decode cX12_bestOf 21 = .ok (.iload_n 2, 1) := by decide +kernel
theorem dX12_bestOf_22 : decode cX12_bestOf 22 = .ok (.aload_n 0, 1) := by decide +kernel
theorem dX12_bestOf_23 : decode cX12_bestOf 23 = .ok (.getfield 9, 3) := by decide +kernel
theorem dX12_bestOf_26 : decode cX12_bestOf 26 = .ok (.iconst 0, 1) := by decide +kernel
theorem dX12_bestOf_27 : decode cX12_bestOf 27 = .ok (.iaload, 1) := by decide +kernel
theorem dX12_bestOf_28 : decode cX12_bestOf 28 = .ok (.if_icmp .ge 90, 3) := by decide +kernel
theorem dX12_bestOf_31 : decode cX12_bestOf 31 = .ok (.iload_n 1, 1) := by decide +kernel
theorem dX12_bestOf_32 : decode cX12_bestOf 32 = .ok (.iload 4, 2) := by decide +kernel
theorem dX12_bestOf_34 : decode cX12_bestOf 34 = .ok (.invokestatic 68, 3) := by decide +kernel
theorem dX12_bestOf_37 : decode cX12_bestOf 37 = .ok (.ifCond .eq 18, 3) := by decide +kernel
theorem dX12_bestOf_40 : decode cX12_bestOf 40 = .ok (.aload_n 0, 1) := by decide +kernel
theorem dX12_bestOf_41 : decode cX12_bestOf 41 = .ok (.getfield 25, 3) := by decide +kernel
theorem dX12_bestOf_44 : decode cX12_bestOf 44 = .ok (.bipush 7, 2) := by decide +kernel
theorem dX12_bestOf_46 : decode cX12_bestOf 46 = .ok (.iload_n 2, 1) := by decide +kernel
theorem dX12_bestOf_47 : decode cX12_bestOf 47 = .ok (.imul, 1) := by decide +kernel
theorem dX12_bestOf_48 : decode cX12_bestOf 48 = .ok (.iload 4, 2) := by decide +kernel
theorem dX12_bestOf_50 : decode cX12_bestOf 50 = .ok (.iadd, 1) := by decide +kernel
theorem dX12_bestOf_51 : decode cX12_bestOf 51 = .ok (.iaload, 1) := by decide +kernel
theorem dX12_bestOf_52 : decode cX12_bestOf 52 = .ok (.goto 4, 3) := by decide +kernel
theorem dX12_bestOf_55 : decode cX12_bestOf 55 = .ok (.iconst (-1), 1) := by decide +kernel
theorem dX12_bestOf_56 : decode cX12_bestOf 56 = .ok (.istore 5, 2) := by decide +kernel
theorem dX12_bestOf_58 : decode cX12_bestOf 58 = .ok (.iload 5, 2) := by decide +kernel
theorem dX12_bestOf_60 : decode cX12_bestOf 60 = .ok (.ifCond .lt 52, 3) := by decide +kernel
theorem dX12_bestOf_63 : decode cX12_bestOf 63 = .ok (.iload 5, 2) := by decide +kernel
theorem dX12_bestOf_65 : decode cX12_bestOf 65 = .ok (.aload_n 0, 1) := by decide +kernel
theorem dX12_bestOf_66 : decode cX12_bestOf 66 = .ok (.getfield 28, 3) := by decide +kernel
theorem dX12_bestOf_69 : decode cX12_bestOf 69 = .ok (.iload_n 1, 1) := by decide +kernel
theorem dX12_bestOf_70 : decode cX12_bestOf 70 = .ok (.iconst 1, 1) := by decide +kernel
theorem dX12_bestOf_71 : decode cX12_bestOf 71 = .ok (.iload_n 2, 1) := by decide +kernel
theorem dX12_bestOf_72 : decode cX12_bestOf 72 = .ok (.ishl, 1) := by decide +kernel
theorem dX12_bestOf_73 : decode cX12_bestOf 73 = .ok (.iconst (-1), 1) := by decide +kernel
theorem dX12_bestOf_74 : decode cX12_bestOf 74 = .ok (.ixor, 1) := by decide +kernel
theorem dX12_bestOf_75 : decode cX12_bestOf 75 = .ok (.iand, 1) := by decide +kernel
theorem dX12_bestOf_76 : decode cX12_bestOf 76 = .ok (.iconst 1, 1) := by decide +kernel
theorem dX12_bestOf_77 : decode cX12_bestOf 77 = .ok (.iload 4, 2) := by decide +kernel
theorem dX12_bestOf_79 : decode cX12_bestOf 79 = .ok (.ishl, 1) := by decide +kernel
theorem dX12_bestOf_80 : decode cX12_bestOf 80 = .ok (.iconst (-1), 1) := by decide +kernel
theorem dX12_bestOf_81 : decode cX12_bestOf 81 = .ok (.ixor, 1) := by decide +kernel
theorem dX12_bestOf_82 : decode cX12_bestOf 82 = .ok (.iand, 1) := by decide +kernel
theorem dX12_bestOf_83 : decode cX12_bestOf 83 = .ok (.iaload, 1) := by decide +kernel
theorem dX12_bestOf_84 : decode cX12_bestOf 84 = .ok (.iadd, 1) := by decide +kernel
theorem dX12_bestOf_85 : decode cX12_bestOf 85 = .ok (.iload_n 3, 1) := by decide +kernel
theorem dX12_bestOf_86 : decode cX12_bestOf 86 = .ok (.if_icmp .le 26, 3) := by decide +kernel
theorem dX12_bestOf_89 : decode cX12_bestOf 89 = .ok (.iload 5, 2) := by decide +kernel
theorem dX12_bestOf_91 : decode cX12_bestOf 91 = .ok (.aload_n 0, 1) := by decide +kernel
theorem dX12_bestOf_92 : decode cX12_bestOf 92 = .ok (.getfield 28, 3) := by decide +kernel
theorem dX12_bestOf_95 : decode cX12_bestOf 95 = .ok (.iload_n 1, 1) := by decide +kernel
theorem dX12_bestOf_96 : decode cX12_bestOf 96 = .ok (.iconst 1, 1) := by decide +kernel
theorem dX12_bestOf_97 : decode cX12_bestOf 97 = .ok (.iload_n 2, 1) := by decide +kernel
theorem dX12_bestOf_98 : decode cX12_bestOf 98 = .ok (.ishl, 1) := by decide +kernel
theorem dX12_bestOf_99 : decode cX12_bestOf 99 = .ok (.iconst (-1), 1) := by decide +kernel
theorem dX12_bestOf_100 : decode cX12_bestOf 100 = .ok (.ixor, 1) := by decide +kernel
theorem dX12_bestOf_101 : decode cX12_bestOf 101 = .ok (.iand, 1) := by decide +kernel
theorem dX12_bestOf_102 : decode cX12_bestOf 102 = .ok (.iconst 1, 1) := by decide +kernel
theorem dX12_bestOf_103 : decode cX12_bestOf 103 = .ok (.iload 4, 2) := by decide +kernel
theorem dX12_bestOf_105 : decode cX12_bestOf 105 = .ok (.ishl, 1) := by decide +kernel
theorem dX12_bestOf_106 : decode cX12_bestOf 106 = .ok (.iconst (-1), 1) := by decide +kernel
theorem dX12_bestOf_107 : decode cX12_bestOf 107 = .ok (.ixor, 1) := by decide +kernel
theorem dX12_bestOf_108 : decode cX12_bestOf 108 = .ok (.iand, 1) := by decide +kernel
theorem dX12_bestOf_109 : decode cX12_bestOf 109 = .ok (.iaload, 1) := by decide +kernel
theorem dX12_bestOf_110 : decode cX12_bestOf 110 = .ok (.iadd, 1) := by decide +kernel
theorem dX12_bestOf_111 : decode cX12_bestOf 111 = .ok (.istore_n 3, 1) := by decide +kernel
theorem dX12_bestOf_112 : decode cX12_bestOf 112 = .ok (.iinc 4 1, 3) := by decide +kernel
theorem dX12_bestOf_115 : decode cX12_bestOf 115 = .ok (.goto (-105), 3) := by decide +kernel
theorem dX12_bestOf_118 : decode cX12_bestOf 118 = .ok (.iload_n 3, 1) := by decide +kernel
theorem dX12_bestOf_119 : decode cX12_bestOf 119 = .ok (.ifCond .ge 7, 3) := by decide +kernel
theorem dX12_bestOf_122 : decode cX12_bestOf 122 = .ok (.iconst 0, 1) := by decide +kernel
theorem dX12_bestOf_123 : decode cX12_bestOf 123 = .ok (.goto 4, 3) := by decide +kernel
theorem dX12_bestOf_126 : decode cX12_bestOf 126 = .ok (.iload_n 3, 1) := by decide +kernel
theorem dX12_bestOf_127 : decode cX12_bestOf 127 = .ok (.ireturn, 1) := by decide +kernel
theorem dX12_partnerOf_0 : decode cX12_partnerOf 0 = .ok (.iload_n 1, 1) := by decide +kernel
theorem dX12_partnerOf_1 : decode cX12_partnerOf 1 = .ok (.invokestatic 191, 3) := by decide +kernel
theorem dX12_partnerOf_4 : decode cX12_partnerOf 4 = .ok (.istore_n 2, 1) := by decide +kernel
theorem dX12_partnerOf_5 : decode cX12_partnerOf 5 = .ok (.iload_n 2, 1) := by decide +kernel
theorem dX12_partnerOf_6 : decode cX12_partnerOf 6 = .ok (.iconst 1, 1) := by decide +kernel
theorem dX12_partnerOf_7 : decode cX12_partnerOf 7 = .ok (.iadd, 1) := by decide +kernel
theorem dX12_partnerOf_8 : decode cX12_partnerOf 8 = .ok (.istore_n 3, 1) := by decide +kernel
theorem dX12_partnerOf_9 : decode cX12_partnerOf 9 = .ok (.iload_n 3, 1) := by decide +kernel
theorem dX12_partnerOf_10 : decode cX12_partnerOf 10 = .ok (.aload_n 0, 1) := by decide +kernel
theorem dX12_partnerOf_11 : decode cX12_partnerOf 11 = .ok (.getfield 9, 3) := by decide +kernel
theorem dX12_partnerOf_14 : decode cX12_partnerOf 14 = .ok (.iconst 0, 1) := by decide +kernel
theorem dX12_partnerOf_15 : decode cX12_partnerOf 15 = .ok (.iaload, 1) := by decide +kernel
theorem dX12_partnerOf_16 : decode cX12_partnerOf 16 = .ok (.if_icmp .ge 71, 3) := by decide +kernel
theorem dX12_partnerOf_19 : decode cX12_partnerOf 19 = .ok (.iload_n 1, 1) := by decide +kernel
theorem dX12_partnerOf_20 : decode cX12_partnerOf 20 = .ok (.iload_n 3, 1) := by decide +kernel
theorem dX12_partnerOf_21 : decode cX12_partnerOf 21 = .ok (.invokestatic 68, 3) := by decide +kernel
theorem dX12_partnerOf_24 : decode cX12_partnerOf 24 = .ok (.ifCond .eq 17, 3) := by decide +kernel
theorem dX12_partnerOf_27 : decode cX12_partnerOf 27 = .ok (.aload_n 0, 1) := by decide +kernel
theorem dX12_partnerOf_28 : decode cX12_partnerOf 28 = .ok (.getfield 25, 3) := by decide +kernel
theorem dX12_partnerOf_31 : decode cX12_partnerOf 31 = .ok (.bipush 7, 2) := by decide +kernel
theorem dX12_partnerOf_33 : decode cX12_partnerOf 33 = .ok (.iload_n 2, 1) := by decide +kernel
theorem dX12_partnerOf_34 : decode cX12_partnerOf 34 = .ok (.imul, 1) := by decide +kernel
theorem dX12_partnerOf_35 : decode cX12_partnerOf 35 = .ok (.iload_n 3, 1) := by decide +kernel
theorem dX12_partnerOf_36 : decode cX12_partnerOf 36 = .ok (.iadd, 1) := by decide +kernel
theorem dX12_partnerOf_37 : decode cX12_partnerOf 37 = .ok (.iaload, 1) := by decide +kernel
theorem dX12_partnerOf_38 : decode cX12_partnerOf 38 = .ok (.goto 4, 3) := by decide +kernel
theorem dX12_partnerOf_41 : decode cX12_partnerOf 41 = .ok (.iconst (-1), 1) := by decide +kernel
theorem dX12_partnerOf_42 : decode cX12_partnerOf 42 = .ok (.istore 4, 2) := by decide +kernel
theorem dX12_partnerOf_44 : decode cX12_partnerOf 44 = .ok (.iload 4, 2) := by decide +kernel
theorem dX12_partnerOf_46 : decode cX12_partnerOf 46 = .ok (.ifCond .lt 35, 3) := by decide +kernel
theorem dX12_partnerOf_49 : decode cX12_partnerOf 49 = .ok (.iload 4, 2) := by decide +kernel
theorem dX12_partnerOf_51 : decode cX12_partnerOf 51 = .ok (.aload_n 0, 1) := by decide +kernel
theorem dX12_partnerOf_52 : decode cX12_partnerOf 52 = .ok (.getfield 28, 3) := by decide +kernel
theorem dX12_partnerOf_55 : decode cX12_partnerOf 55 = .ok (.iload_n 1, 1) := by decide +kernel
theorem dX12_partnerOf_56 : decode cX12_partnerOf 56 = .ok (.iconst 1, 1) := by decide +kernel
theorem dX12_partnerOf_57 : decode cX12_partnerOf 57 = .ok (.iload_n 2, 1) := by decide +kernel
theorem dX12_partnerOf_58 : decode cX12_partnerOf 58 = .ok (.ishl, 1) := by decide +kernel
theorem dX12_partnerOf_59 : decode cX12_partnerOf 59 = .ok (.iconst (-1), 1) := by decide +kernel
theorem dX12_partnerOf_60 : decode cX12_partnerOf 60 = .ok (.ixor, 1) := by decide +kernel
theorem dX12_partnerOf_61 : decode cX12_partnerOf 61 = .ok (.iand, 1) := by decide +kernel
theorem dX12_partnerOf_62 : decode cX12_partnerOf 62 = .ok (.iconst 1, 1) := by decide +kernel
theorem dX12_partnerOf_63 : decode cX12_partnerOf 63 = .ok (.iload_n 3, 1) := by decide +kernel
theorem dX12_partnerOf_64 : decode cX12_partnerOf 64 = .ok (.ishl, 1) := by decide +kernel
theorem dX12_partnerOf_65 : decode cX12_partnerOf 65 = .ok (.iconst (-1), 1) := by decide +kernel
theorem dX12_partnerOf_66 : decode cX12_partnerOf 66 = .ok (.ixor, 1) := by decide +kernel
theorem dX12_partnerOf_67 : decode cX12_partnerOf 67 = .ok (.iand, 1) := by decide +kernel
theorem dX12_partnerOf_68 : decode cX12_partnerOf 68 = .ok (.iaload, 1) := by decide +kernel
theorem dX12_partnerOf_69 : decode cX12_partnerOf 69 = .ok (.iadd, 1) := by decide +kernel
theorem dX12_partnerOf_70 : decode cX12_partnerOf 70 = .ok (.aload_n 0, 1) := by decide +kernel
theorem dX12_partnerOf_71 : decode cX12_partnerOf 71 = .ok (.getfield 28, 3) := by decide +kernel
theorem dX12_partnerOf_74 : decode cX12_partnerOf 74 = .ok (.iload_n 1, 1) := by decide +kernel
theorem dX12_partnerOf_75 : decode cX12_partnerOf 75 = .ok (.iaload, 1) := by decide +kernel
theorem dX12_partnerOf_76 : decode cX12_partnerOf 76 = .ok (.if_icmp .ne 5, 3) := by decide +kernel
theorem dX12_partnerOf_79 : decode cX12_partnerOf 79 = .ok (.iload_n 3, 1) := by decide +kernel
theorem dX12_partnerOf_80 : decode cX12_partnerOf 80 = .ok (.ireturn, 1) := by decide +kernel
theorem dX12_partnerOf_81 : decode cX12_partnerOf 81 = .ok (.iinc 3 1, 3) := by decide +kernel
theorem dX12_partnerOf_84 : decode cX12_partnerOf 84 = .ok (.goto (-75), 3) := by decide +kernel
theorem dX12_partnerOf_87 : decode cX12_partnerOf 87 = .ok (.bipush (-4), 2) := by decide +kernel
theorem dX12_partnerOf_89 : decode cX12_partnerOf 89 = .ok (.ireturn, 1) := by decide +kernel
theorem dX12_pairs_0 : decode cX12_pairs 0 = .ok (.iload_n 1, 1) := by decide +kernel
theorem dX12_pairs_1 : decode cX12_pairs 1 = .ok (.iconst (-1), 1) := by decide +kernel
theorem dX12_pairs_2 : decode cX12_pairs 2 = .ok (.if_icmp .eq 13, 3) := by decide +kernel
theorem dX12_pairs_5 : decode cX12_pairs 5 = .ok (.aload_n 0, 1) := by decide +kernel
theorem dX12_pairs_6 : decode cX12_pairs 6 = .ok (.iload_n 1, 1) := by decide +kernel
theorem dX12_pairs_7 : decode cX12_pairs 7 = .ok (.invokevirtual 113, 3) := by decide +kernel
theorem dX12_pairs_10 : decode cX12_pairs 10 = .ok (.ifCond .ne 5, 3) := by decide +kernel
theorem dX12_pairs_13 : decode cX12_pairs 13 = .ok (.iconst (-1), 1) := by decide +kernel
theorem dX12_pairs_14 : decode cX12_pairs 14 = .ok (.ireturn, 1) := by decide +kernel
theorem dX12_pairs_15 : decode cX12_pairs 15 = .ok (.aload_n 0, 1) := by decide +kernel
theorem dX12_pairs_16 : decode cX12_pairs 16 = .ok (.invokevirtual 194, 3) := by decide +kernel
theorem dX12_pairs_19 : decode cX12_pairs 19 = .ok (.aload_n 0, 1) := by decide +kernel
theorem dX12_pairs_20 : decode cX12_pairs 20 = .ok (.getfield 9, 3) := by decide +kernel
theorem dX12_pairs_23 : decode cX12_pairs 23 = .ok (.invokestatic 162, 3) := by decide +kernel
theorem dX12_pairs_26 : decode cX12_pairs 26 = .ok (.istore_n 2, 1) := by decide +kernel
theorem dX12_pairs_27 : decode cX12_pairs 27 = .ok (.iload_n 1, 1) := by decide +kernel
theorem dX12_pairs_28 : decode cX12_pairs 28 = .ok (.ifCond .ge 10, 3) := by decide +kernel
theorem dX12_pairs_31 : decode cX12_pairs 31 = .ok (.aload_n 0, 1) := by decide +kernel
theorem dX12_pairs_32 : decode cX12_pairs 32 = .ok (.getfield 28, 3) := by decide +kernel
theorem dX12_pairs_35 : decode cX12_pairs 35 = .ok (.iload_n 2, 1) := by decide +kernel
theorem dX12_pairs_36 : decode cX12_pairs 36 = .ok (.iaload, 1) := by decide +kernel
theorem dX12_pairs_37 : decode cX12_pairs 37 = .ok (.ireturn, 1) := by decide +kernel
theorem dX12_pairs_38 : decode cX12_pairs 38 = .ok (.iload_n 2, 1) := by decide +kernel
theorem dX12_pairs_39 : decode cX12_pairs 39 = .ok (.ifCond .eq 60, 3) := by decide +kernel
theorem dX12_pairs_42 : decode cX12_pairs 42 = .ok (.iload_n 2, 1) := by decide +kernel
theorem dX12_pairs_43 : decode cX12_pairs 43 = .ok (.invokestatic 191, 3) := by decide +kernel
theorem dX12_pairs_46 : decode cX12_pairs 46 = .ok (.istore_n 3, 1) := by decide +kernel
theorem dX12_pairs_47 : decode cX12_pairs 47 = .ok (.aload_n 0, 1) := by decide +kernel
theorem dX12_pairs_48 : decode cX12_pairs 48 = .ok (.iload_n 2, 1) := by decide +kernel
theorem dX12_pairs_49 : decode cX12_pairs 49 = .ok (.invokevirtual 197, 3) := by decide +kernel
theorem dX12_pairs_52 : decode cX12_pairs 52 = .ok (.istore 4, 2) := by decide +kernel
theorem dX12_pairs_54 : decode cX12_pairs 54 = .ok (.iload_n 3, 1) := by decide +kernel
theorem dX12_pairs_55 : decode cX12_pairs 55 = .ok (.iload_n 1, 1) := by decide +kernel
theorem dX12_pairs_56 : decode cX12_pairs 56 = .ok (.if_icmp .ne 6, 3) := by decide +kernel
theorem dX12_pairs_59 : decode cX12_pairs 59 = .ok (.iload 4, 2) := by decide +kernel
theorem dX12_pairs_61 : decode cX12_pairs 61 = .ok (.ireturn, 1) := by decide +kernel
theorem dX12_pairs_62 : decode cX12_pairs 62 = .ok (.iload 4, 2) := by decide +kernel
theorem dX12_pairs_64 : decode cX12_pairs 64 = .ok (.iload_n 1, 1) := by decide +kernel
theorem dX12_pairs_65 : decode cX12_pairs 65 = .ok (.if_icmp .ne 5, 3) := by decide +kernel
theorem dX12_pairs_68 : decode cX12_pairs 68 = .ok (.iload_n 3, 1) := by decide +kernel
theorem dX12_pairs_69 : decode cX12_pairs 69 = .ok (.ireturn, 1) := by decide +kernel
theorem dX12_pairs_70 : decode cX12_pairs 70 = .ok (.iload_n 2, 1) := by decide +kernel
theorem dX12_pairs_71 : decode cX12_pairs 71 = .ok (.iload 4, 2) := by decide +kernel
theorem dX12_pairs_73 : decode cX12_pairs 73 = .ok (.ifCond .ge 11, 3) := by decide +kernel
theorem dX12_pairs_76 : decode cX12_pairs 76 = .ok (.iconst 1, 1) := by decide +kernel
theorem dX12_pairs_77 : decode cX12_pairs 77 = .ok (.iload_n 3, 1) := by decide +kernel
theorem dX12_pairs_78 : decode cX12_pairs 78 = .ok (.ishl, 1) := by decide +kernel
theorem dX12_pairs_79 : decode cX12_pairs 79 = .ok (.iconst (-1), 1) := by decide +kernel
theorem dX12_pairs_80 : decode cX12_pairs 80 = .ok (.ixor, 1) := by decide +kernel
theorem dX12_pairs_81 : decode cX12_pairs 81 = .ok (.goto 13, 3) := by decide +kernel
theorem dX12_pairs_84 : decode cX12_pairs 84 = .ok (.iconst 1, 1) := by decide +kernel
theorem dX12_pairs_85 : decode cX12_pairs 85 = .ok (.iload_n 3, 1) := by decide +kernel
theorem dX12_pairs_86 : decode cX12_pairs 86 = .ok (.ishl, 1) := by decide +kernel
theorem dX12_pairs_87 : decode cX12_pairs 87 = .ok (.iconst 1, 1) := by decide +kernel
theorem dX12_pairs_88 : decode cX12_pairs 88 = .ok (.iload 4, 2) := by decide +kernel
theorem dX12_pairs_90 : decode cX12_pairs 90 = .ok (.ishl, 1) := by decide +kernel
theorem dX12_pairs_91 : decode cX12_pairs 91 = .ok (.ior, 1) := by decide +kernel
theorem dX12_pairs_92 : decode cX12_pairs 92 = .ok (.iconst (-1), 1) := by decide +kernel
theorem dX12_pairs_93 : decode cX12_pairs 93 = .ok (.ixor, 1) := by decide +kernel
theorem dX12_pairs_94 : decode cX12_pairs 94 = .ok (.iand, 1) := by decide +kernel
theorem dX12_pairs_95 : decode cX12_pairs 95 = .ok (.istore_n 2, 1) := by decide +kernel
theorem dX12_pairs_96 : decode cX12_pairs 96 = .ok (.goto (-58), 3) := by decide +kernel
theorem dX12_pairs_99 : decode cX12_pairs 99 = .ok (.bipush (-4), 2) := by decide +kernel
theorem dX12_pairs_101 : decode cX12_pairs 101 = .ok (.ireturn, 1) := by decide +kernel
theorem dX12_ledger_0 : decode cX12_ledger 0 = .ok (.iconst 0, 1) := by decide +kernel
theorem dX12_ledger_1 : decode cX12_ledger 1 = .ok (.istore_n 1, 1) := by decide +kernel
theorem dX12_ledger_2 : decode cX12_ledger 2 = .ok (.iconst 0, 1) := by decide +kernel
theorem dX12_ledger_3 : decode cX12_ledger 3 = .ok (.istore_n 2, 1) := by decide +kernel
theorem dX12_ledger_4 : decode cX12_ledger 4 = .ok (.iload_n 2, 1) := by decide +kernel
theorem dX12_ledger_5 : decode cX12_ledger 5 = .ok (.aload_n 0, 1) := by decide +kernel
theorem dX12_ledger_6 : decode cX12_ledger 6 = .ok (.getfield 9, 3) := by decide +kernel
theorem dX12_ledger_9 : decode cX12_ledger 9 = .ok (.iconst 0, 1) := by decide +kernel
theorem dX12_ledger_10 : decode cX12_ledger 10 = .ok (.iaload, 1) := by decide +kernel
theorem dX12_ledger_11 : decode cX12_ledger 11 = .ok (.if_icmp .ge 48, 3) := by decide +kernel
theorem dX12_ledger_14 : decode cX12_ledger 14 = .ok (.iload_n 1, 1) := by decide +kernel
theorem dX12_ledger_15 : decode cX12_ledger 15 = .ok (.aload_n 0, 1) := by decide +kernel
theorem dX12_ledger_16 : decode cX12_ledger 16 = .ok (.getfield 9, 3) := by decide +kernel
theorem dX12_ledger_19 : decode cX12_ledger 19 = .ok (.iload_n 2, 1) := by decide +kernel
theorem dX12_ledger_20 : decode cX12_ledger 20 = .ok (.invokestatic 61, 3) := by decide +kernel
theorem dX12_ledger_23 : decode cX12_ledger 23 = .ok (.ifCond .eq 27, 3) := by decide +kernel
theorem dX12_ledger_26 : decode cX12_ledger 26 = .ok (.aload_n 0, 1) := by decide +kernel
theorem dX12_ledger_27 : decode cX12_ledger 27 = .ok (.getfield 9, 3) := by decide +kernel
theorem dX12_ledger_30 : decode cX12_ledger 30 = .ok (.iload_n 2, 1) := by decide +kernel
theorem dX12_ledger_31 : decode cX12_ledger 31 = .ok (.iconst 3, 1) := by decide +kernel
theorem dX12_ledger_32 : decode cX12_ledger 32 = .ok (.invokestatic 53, 3) := by decide +kernel
theorem dX12_ledger_35 : decode cX12_ledger 35 = .ok (.iaload, 1) := by decide +kernel
theorem dX12_ledger_36 : decode cX12_ledger 36 = .ok (.aload_n 0, 1) := by decide +kernel
theorem dX12_ledger_37 : decode cX12_ledger 37 = .ok (.getfield 9, 3) := by decide +kernel
theorem dX12_ledger_40 : decode cX12_ledger 40 = .ok (.iload_n 2, 1) := by decide +kernel
theorem dX12_ledger_41 : decode cX12_ledger 41 = .ok (.iconst 2, 1) := by decide +kernel
theorem dX12_ledger_42 : decode cX12_ledger 42 = .ok (.invokestatic 53, 3) := by decide +kernel
theorem dX12_ledger_45 : decode cX12_ledger 45 = .ok (.iaload, 1) := by decide +kernel
theorem dX12_ledger_46 : decode cX12_ledger 46 = .ok (.isub, 1) := by decide +kernel
theorem dX12_ledger_47 : decode cX12_ledger 47 = .ok (.goto 4, 3) := by decide +kernel
theorem dX12_ledger_50 : decode cX12_ledger 50 = .ok (.iconst 0, 1) := by decide +kernel
theorem dX12_ledger_51 : decode cX12_ledger 51 = .ok (.iadd, 1) := by decide +kernel
theorem dX12_ledger_52 : decode cX12_ledger 52 = .ok (.istore_n 1, 1) := by decide +kernel
theorem dX12_ledger_53 : decode cX12_ledger 53 = .ok (.iinc 2 1, 3) := by decide +kernel
theorem dX12_ledger_56 : decode cX12_ledger 56 = .ok (.goto (-52), 3) := by decide +kernel
theorem dX12_ledger_59 : decode cX12_ledger 59 = .ok (.iload_n 1, 1) := by decide +kernel
theorem dX12_ledger_60 : decode cX12_ledger 60 = .ok (.ireturn, 1) := by decide +kernel
theorem dX12_sameOnes_0 : decode cX12_sameOnes 0 = .ok (.iconst 0, 1) := by decide +kernel
theorem dX12_sameOnes_1 : decode cX12_sameOnes 1 = .ok (.istore_n 1, 1) := by decide +kernel
theorem dX12_sameOnes_2 : decode cX12_sameOnes 2 = .ok (.iconst 0, 1) := by decide +kernel
theorem dX12_sameOnes_3 : decode cX12_sameOnes 3 = .ok (.istore_n 2, 1) := by decide +kernel
theorem dX12_sameOnes_4 : decode cX12_sameOnes 4 = .ok (.iload_n 2, 1) := by decide +kernel
theorem dX12_sameOnes_5 : decode cX12_sameOnes 5 = .ok (.aload_n 0, 1) := by decide +kernel
theorem dX12_sameOnes_6 : decode cX12_sameOnes 6 = .ok (.getfield 9, 3) := by decide +kernel
theorem dX12_sameOnes_9 : decode cX12_sameOnes 9 = .ok (.iconst 0, 1) := by decide +kernel
theorem dX12_sameOnes_10 : decode cX12_sameOnes 10 = .ok (.iaload, 1) := by decide +kernel
theorem dX12_sameOnes_11 : decode cX12_sameOnes 11 = .ok (.if_icmp .ge 82, 3) := by decide +kernel
theorem dX12_sameOnes_14 : decode cX12_sameOnes 14 = .ok (.iload_n 2, 1) := by decide +kernel
theorem dX12_sameOnes_15 : decode cX12_sameOnes 15 = .ok (.iconst 1, 1) := by decide +kernel
theorem dX12_sameOnes_16 : decode cX12_sameOnes 16 = .ok (.iadd, 1) := by decide +kernel
theorem dX12_sameOnes_17 : decode cX12_sameOnes 17 = .ok (.istore_n 3, 1) := by decide +kernel
theorem dX12_sameOnes_18 : decode cX12_sameOnes 18 = .ok (.iload_n 3, 1) := by decide +kernel
theorem dX12_sameOnes_19 : decode cX12_sameOnes 19 = .ok (.aload_n 0, 1) := by decide +kernel
theorem dX12_sameOnes_20 : decode cX12_sameOnes 20 = .ok (.getfield 9, 3) := by decide +kernel
theorem dX12_sameOnes_23 : decode cX12_sameOnes 23 = .ok (.iconst 0, 1) := by decide +kernel
theorem dX12_sameOnes_24 : decode cX12_sameOnes 24 = .ok (.iaload, 1) := by decide +kernel
theorem dX12_sameOnes_25 : decode cX12_sameOnes 25 = .ok (.if_icmp .ge 62, 3) := by decide +kernel
theorem dX12_sameOnes_28 : decode cX12_sameOnes 28 = .ok (.iload_n 1, 1) := by decide +kernel
theorem dX12_sameOnes_29 : decode cX12_sameOnes 29 = .ok (.aload_n 0, 1) := by decide +kernel
theorem dX12_sameOnes_30 : decode cX12_sameOnes 30 = .ok (.getfield 9, 3) := by decide +kernel
theorem dX12_sameOnes_33 : decode cX12_sameOnes 33 = .ok (.iload_n 2, 1) := by decide +kernel
theorem dX12_sameOnes_34 : decode cX12_sameOnes 34 = .ok (.invokestatic 61, 3) := by decide +kernel
theorem dX12_sameOnes_37 : decode cX12_sameOnes 37 = .ok (.ifCond .eq 41, 3) := by decide +kernel
theorem dX12_sameOnes_40 : decode cX12_sameOnes 40 = .ok (.aload_n 0, 1) := by decide +kernel
theorem dX12_sameOnes_41 : decode cX12_sameOnes 41 = .ok (.getfield 9, 3) := by decide +kernel
theorem dX12_sameOnes_44 : decode cX12_sameOnes 44 = .ok (.iload_n 3, 1) := by decide +kernel
theorem dX12_sameOnes_45 : decode cX12_sameOnes 45 = .ok (.invokestatic 61, 3) := by decide +kernel
theorem dX12_sameOnes_48 : decode cX12_sameOnes 48 = .ok (.ifCond .eq 30, 3) := by decide +kernel
theorem dX12_sameOnes_51 : decode cX12_sameOnes 51 = .ok (.aload_n 0, 1) := by decide +kernel
theorem dX12_sameOnes_52 : decode cX12_sameOnes 52 = .ok (.getfield 9, 3) := by decide +kernel
theorem dX12_sameOnes_55 : decode cX12_sameOnes 55 = .ok (.iload_n 2, 1) := by decide +kernel
theorem dX12_sameOnes_56 : decode cX12_sameOnes 56 = .ok (.iconst 2, 1) := by decide +kernel
theorem dX12_sameOnes_57 : decode cX12_sameOnes 57 = .ok (.invokestatic 53, 3) := by decide +kernel
theorem dX12_sameOnes_60 : decode cX12_sameOnes 60 = .ok (.iaload, 1) := by decide +kernel
theorem dX12_sameOnes_61 : decode cX12_sameOnes 61 = .ok (.aload_n 0, 1) := by decide +kernel
theorem dX12_sameOnes_62 : decode cX12_sameOnes 62 = .ok (.getfield 9, 3) := by decide +kernel
theorem dX12_sameOnes_65 : decode cX12_sameOnes 65 = .ok (.iload_n 3, 1) := by decide +kernel
theorem dX12_sameOnes_66 : decode cX12_sameOnes 66 = .ok (.iconst 2, 1) := by decide +kernel
theorem dX12_sameOnes_67 : decode cX12_sameOnes 67 = .ok (.invokestatic 53, 3) := by decide +kernel
theorem dX12_sameOnes_70 : decode cX12_sameOnes 70 = .ok (.iaload, 1) := by decide +kernel
theorem dX12_sameOnes_71 : decode cX12_sameOnes 71 = .ok (.if_icmp .ne 7, 3) := by decide +kernel
theorem dX12_sameOnes_74 : decode cX12_sameOnes 74 = .ok (.iconst 1, 1) := by decide +kernel
theorem dX12_sameOnes_75 : decode cX12_sameOnes 75 = .ok (.goto 4, 3) := by decide +kernel
theorem dX12_sameOnes_78 : decode cX12_sameOnes 78 = .ok (.iconst 0, 1) := by decide +kernel
theorem dX12_sameOnes_79 : decode cX12_sameOnes 79 = .ok (.iadd, 1) := by decide +kernel
theorem dX12_sameOnes_80 : decode cX12_sameOnes 80 = .ok (.istore_n 1, 1) := by decide +kernel
theorem dX12_sameOnes_81 : decode cX12_sameOnes 81 = .ok (.iinc 3 1, 3) := by decide +kernel
theorem dX12_sameOnes_84 : decode cX12_sameOnes 84 = .ok (.goto (-66), 3) := by decide +kernel
theorem dX12_sameOnes_87 : decode cX12_sameOnes 87 = .ok (.iinc 2 1, 3) := by decide +kernel
theorem dX12_sameOnes_90 : decode cX12_sameOnes 90 = .ok (.goto (-86), 3) := by decide +kernel
theorem dX12_sameOnes_93 : decode cX12_sameOnes 93 = .ok (.iload_n 1, 1) := by decide +kernel
theorem dX12_sameOnes_94 : decode cX12_sameOnes 94 = .ok (.ireturn, 1) := by decide +kernel
theorem dX12_tears_0 : decode cX12_tears 0 = .ok (.iload_n 1, 1) := by decide +kernel
theorem dX12_tears_1 : decode cX12_tears 1 = .ok (.iconst 0, 1) := by decide +kernel
theorem dX12_tears_2 : decode cX12_tears 2 = .ok (.iconst 3, 1) := by decide +kernel
theorem dX12_tears_3 : decode cX12_tears 3 = .ok (.invokestatic 49, 3) := by decide +kernel
theorem dX12_tears_6 : decode cX12_tears 6 = .ok (.ifCond .ne 5, 3) := by decide +kernel
theorem dX12_tears_9 : decode cX12_tears 9 = .ok (.iconst (-1), 1) := by decide +kernel
theorem dX12_tears_10 : decode cX12_tears 10 = .ok (.ireturn, 1) := by decide +kernel
theorem dX12_tears_11 : decode cX12_tears 11 = .ok (.iload_n 1, 1) := by decide +kernel
theorem dX12_tears_12 : decode cX12_tears 12 = .ok (.iconst 1, 1) := by decide +kernel
theorem dX12_tears_13 : decode cX12_tears 13 = .ok (.if_icmp .ne 8, 3) := by decide +kernel
theorem dX12_tears_16 : decode cX12_tears 16 = .ok (.aload_n 0, 1) := by decide +kernel
theorem dX12_tears_17 : decode cX12_tears 17 = .ok (.invokevirtual 200, 3) := by decide +kernel
theorem dX12_tears_20 : decode cX12_tears 20 = .ok (.ireturn, 1) := by decide +kernel
theorem dX12_tears_21 : decode cX12_tears 21 = .ok (.aload_n 0, 1) := by decide +kernel
theorem dX12_tears_22 : decode cX12_tears 22 = .ok (.iconst 1, 1) := by decide +kernel
theorem dX12_tears_23 : decode cX12_tears 23 = .ok (.invokevirtual 158, 3) := by decide +kernel
theorem dX12_tears_26 : decode cX12_tears 26 = .ok (.iconst 0, 1) := by decide +kernel
theorem dX12_tears_27 : decode cX12_tears 27 = .ok (.istore_n 2, 1) := by decide +kernel
theorem dX12_tears_28 : decode cX12_tears 28 = .ok (.iconst 0, 1) := by decide +kernel
theorem dX12_tears_29 : decode cX12_tears 29 = .ok (.istore_n 3, 1) := by decide +kernel
theorem dX12_tears_30 : decode cX12_tears 30 = .ok (.iconst 0, 1) := by decide +kernel
theorem dX12_tears_31 : decode cX12_tears 31 = .ok (.istore 4, 2) := by decide +kernel
theorem dX12_tears_33 : decode cX12_tears 33 = .ok (.iload 4, 2) := by decide +kernel
theorem dX12_tears_35 : decode cX12_tears 35 = .ok (.aload_n 0, 1) := by decide +kernel
theorem dX12_tears_36 : decode cX12_tears 36 = .ok (.getfield 9, 3) := by decide +kernel
theorem dX12_tears_39 : decode cX12_tears 39 = .ok (.iconst 0, 1) := by decide +kernel
theorem dX12_tears_40 : decode cX12_tears 40 = .ok (.iaload, 1) := by decide +kernel
theorem dX12_tears_41 : decode cX12_tears 41 = .ok (.if_icmp .ge 82, 3) := by decide +kernel
theorem dX12_tears_44 : decode cX12_tears 44 = .ok (.aload_n 0, 1) := by decide +kernel
theorem dX12_tears_45 : decode cX12_tears 45 = .ok (.getfield 9, 3) := by decide +kernel
theorem dX12_tears_48 : decode cX12_tears 48 = .ok (.iload 4, 2) := by decide +kernel
theorem dX12_tears_50 : decode cX12_tears 50 = .ok (.invokestatic 61, 3) := by decide +kernel
theorem dX12_tears_53 : decode cX12_tears 53 = .ok (.ifCond .ne 6, 3) := by decide +kernel
theorem dX12_tears_56 : decode cX12_tears 56 = .ok (.goto 61, 3) := by decide +kernel
theorem dX12_tears_59 : decode cX12_tears 59 = .ok (.iload_n 3, 1) := by decide +kernel
theorem dX12_tears_60 : decode cX12_tears 60 = .ok (.aload_n 0, 1) := by decide +kernel
theorem dX12_tears_61 : decode cX12_tears 61 = .ok (.getfield 9, 3) := by decide +kernel
theorem dX12_tears_64 : decode cX12_tears 64 = .ok (.iload 4, 2) := by decide +kernel
theorem dX12_tears_66 : decode cX12_tears 66 = .ok (.iconst 4, 1) := by decide +kernel
theorem dX12_tears_67 : decode cX12_tears 67 = .ok (.invokestatic 53, 3) := by decide +kernel
theorem dX12_tears_70 : decode cX12_tears 70 = .ok (.iaload, 1) := by decide +kernel
theorem dX12_tears_71 : decode cX12_tears 71 = .ok (.iadd, 1) := by decide +kernel
theorem dX12_tears_72 : decode cX12_tears 72 = .ok (.istore_n 3, 1) := by decide +kernel
theorem dX12_tears_73 : decode cX12_tears 73 = .ok (.iload_n 2, 1) := by decide +kernel
theorem dX12_tears_74 : decode cX12_tears 74 = .ok (.iload_n 1, 1) := by decide +kernel
theorem dX12_tears_75 : decode cX12_tears 75 = .ok (.ifCond .ne 20, 3) := by decide +kernel
theorem dX12_tears_78 : decode cX12_tears 78 = .ok (.aload_n 0, 1) := by decide +kernel
theorem dX12_tears_79 : decode cX12_tears 79 = .ok (.getfield 9, 3) := by decide +kernel
theorem dX12_tears_82 : decode cX12_tears 82 = .ok (.iload 4, 2) := by decide +kernel
theorem dX12_tears_84 : decode cX12_tears 84 = .ok (.iconst 4, 1) := by decide +kernel
theorem dX12_tears_85 : decode cX12_tears 85 = .ok (.invokestatic 53, 3) := by decide +kernel
theorem dX12_tears_88 : decode cX12_tears 88 = .ok (.iaload, 1) := by decide +kernel
theorem dX12_tears_89 : decode cX12_tears 89 = .ok (.ifCond .ne 25, 3) := by decide +kernel
theorem dX12_tears_92 : decode cX12_tears 92 = .ok (.goto 15, 3) := by decide +kernel
theorem dX12_tears_95 : decode cX12_tears 95 = .ok (.aload_n 0, 1) := by decide +kernel
theorem dX12_tears_96 : decode cX12_tears 96 = .ok (.getfield 13, 3) := by decide +kernel
theorem dX12_tears_99 : decode cX12_tears 99 = .ok (.iload 4, 2) := by decide +kernel
theorem dX12_tears_101 : decode cX12_tears 101 = .ok (.invokestatic 61, 3) := by decide +kernel
theorem dX12_tears_104 : decode cX12_tears 104 = .ok (.ifCond .ne 10, 3) := by decide +kernel
theorem dX12_tears_107 : decode cX12_tears 107 = .ok (.iconst 1, 1) := by decide +kernel
theorem dX12_tears_108 : decode cX12_tears 108 = .ok (.iload 4, 2) := by decide +kernel
theorem dX12_tears_110 : decode cX12_tears 110 = .ok (.ishl, 1) := by decide +kernel
theorem dX12_tears_111 : decode cX12_tears 111 = .ok (.goto 4, 3) := by decide +kernel
theorem dX12_tears_114 : decode cX12_tears 114 = .ok (.iconst 0, 1) := by decide +kernel
theorem dX12_tears_115 : decode cX12_tears 115 = .ok (.ior, 1) := by decide +kernel
theorem dX12_tears_116 : decode cX12_tears 116 = .ok (.istore_n 2, 1) := by decide +kernel
theorem dX12_tears_117 : decode cX12_tears 117 = .ok (.iinc 4 1, 3) := by decide +kernel
theorem dX12_tears_120 : decode cX12_tears 120 = .ok (.goto (-87), 3) := by decide +kernel
theorem dX12_tears_123 : decode cX12_tears 123 = .ok (.iload_n 1, 1) := by decide +kernel
theorem dX12_tears_124 : decode cX12_tears 124 = .ok (.iconst 3, 1) := by decide +kernel
theorem dX12_tears_125 : decode cX12_tears 125 = .ok (.if_icmp .ne 7, 3) := by decide +kernel
theorem dX12_tears_128 : decode cX12_tears 128 = .ok (.iload_n 3, 1) := by decide +kernel
theorem dX12_tears_129 : decode cX12_tears 129 = .ok (.goto 4, 3) := by decide +kernel
theorem dX12_tears_132 : decode cX12_tears 132 = .ok (.iload_n 2, 1) := by decide +kernel
theorem dX12_tears_133 : decode cX12_tears 133 = .ok (.ireturn, 1) := by decide +kernel
theorem dX12_leastOf_0 : decode cX12_leastOf 0 = .ok (.iload_n 0, 1) := by decide +kernel
theorem dX12_leastOf_1 : decode cX12_leastOf 1 = .ok (.ifCond .ne 8, 3) := by decide +kernel
theorem dX12_leastOf_4 : decode cX12_leastOf 4 = .ok (.bipush (-128), 2) := by decide +kernel
theorem dX12_leastOf_6 : decode cX12_leastOf 6 = .ok (.goto 16, 3) := by decide +kernel
theorem dX12_leastOf_9 : decode cX12_leastOf 9 = .ok (.iload_n 0, 1) := by decide +kernel
theorem dX12_leastOf_10 : decode cX12_leastOf 10 = .ok (.iconst 1, 1) := by decide +kernel
theorem dX12_leastOf_11 : decode cX12_leastOf 11 = .ok (.if_icmp .ne 9, 3) := by decide +kernel
theorem dX12_leastOf_14 : decode cX12_leastOf 14 = .ok (.sipush (-32768), 3) := by decide +kernel
theorem dX12_leastOf_17 : decode cX12_leastOf 17 = .ok (.goto 5, 3) := by decide +kernel
theorem dX12_leastOf_20 : decode cX12_leastOf 20 = .ok (.ldc 203, 2) := by decide +kernel
theorem dX12_leastOf_22 : decode cX12_leastOf 22 = .ok (.ireturn, 1) := by decide +kernel
theorem dX12_isTold_0 : decode cX12_isTold 0 = .ok (.aload_n 0, 1) := by decide +kernel
theorem dX12_isTold_1 : decode cX12_isTold 1 = .ok (.getfield 46, 3) := by decide +kernel
theorem dX12_isTold_4 : decode cX12_isTold 4 = .ok (.bipush 100, 2) := by decide +kernel
theorem dX12_isTold_6 : decode cX12_isTold 6 = .ok (.iload_n 1, 1) := by decide +kernel
theorem dX12_isTold_7 : decode cX12_isTold 7 = .ok (.imul, 1) := by decide +kernel
theorem dX12_isTold_8 : decode cX12_isTold 8 = .ok (.iload_n 2, 1) := by decide +kernel
theorem dX12_isTold_9 : decode cX12_isTold 9 = .ok (.iadd, 1) := by decide +kernel
theorem dX12_isTold_10 : decode cX12_isTold 10 = .ok (.iaload, 1) := by decide +kernel
theorem dX12_isTold_11 : decode cX12_isTold 11 = .ok (.aload_n 0, 1) := by decide +kernel
theorem dX12_isTold_12 : decode cX12_isTold 12 = .ok (.getfield 40, 3) := by decide +kernel
theorem dX12_isTold_15 : decode cX12_isTold 15 = .ok (.iload_n 1, 1) := by decide +kernel
theorem dX12_isTold_16 : decode cX12_isTold 16 = .ok (.iaload, 1) := by decide +kernel
theorem dX12_isTold_17 : decode cX12_isTold 17 = .ok (.invokestatic 204, 3) := by decide +kernel
theorem dX12_isTold_20 : decode cX12_isTold 20 = .ok (.if_icmp .eq 18, 3) := by decide +kernel
theorem dX12_isTold_23 : decode cX12_isTold 23 = .ok (.aload_n 0, 1) := by decide +kernel
theorem dX12_isTold_24 : decode cX12_isTold 24 = .ok (.getfield 46, 3) := by decide +kernel
theorem dX12_isTold_27 : decode cX12_isTold 27 = .ok (.bipush 100, 2) := by decide +kernel
theorem dX12_isTold_29 : decode cX12_isTold 29 = .ok (.iload_n 1, 1) := by decide +kernel
theorem dX12_isTold_30 : decode cX12_isTold 30 = .ok (.imul, 1) := by decide +kernel
theorem dX12_isTold_31 : decode cX12_isTold 31 = .ok (.iload_n 2, 1) := by decide +kernel
theorem dX12_isTold_32 : decode cX12_isTold 32 = .ok (.iadd, 1) := by decide +kernel
theorem dX12_isTold_33 : decode cX12_isTold 33 = .ok (.iaload, 1) := by decide +kernel
theorem dX12_isTold_34 : decode cX12_isTold 34 = .ok (.iload_n 3, 1) := by decide +kernel
theorem dX12_isTold_35 : decode cX12_isTold 35 = .ok (.if_icmp .ne 7, 3) := by decide +kernel
theorem dX12_isTold_38 : decode cX12_isTold 38 = .ok (.iconst 1, 1) := by decide +kernel
theorem dX12_isTold_39 : decode cX12_isTold 39 = .ok (.goto 4, 3) := by decide +kernel
theorem dX12_isTold_42 : decode cX12_isTold 42 = .ok (.iconst 0, 1) := by decide +kernel
theorem dX12_isTold_43 : decode cX12_isTold 43 = .ok (.ireturn, 1) := by decide +kernel
theorem dX12_whatIs_0 : decode cX12_whatIs 0 = .ok (.aload_n 0, 1) := by decide +kernel
theorem dX12_whatIs_1 : decode cX12_whatIs 1 = .ok (.iload_n 2, 1) := by decide +kernel
theorem dX12_whatIs_2 : decode cX12_whatIs 2 = .ok (.invokevirtual 113, 3) := by decide +kernel
theorem dX12_whatIs_5 : decode cX12_whatIs 5 = .ok (.ifCond .eq 12, 3) := by decide +kernel
theorem dX12_whatIs_8 : decode cX12_whatIs 8 = .ok (.iload_n 3, 1) := by decide +kernel
theorem dX12_whatIs_9 : decode cX12_whatIs 9 = .ok (.iconst 0, 1) := by decide +kernel
theorem dX12_whatIs_10 : decode cX12_whatIs 10 = .ok (.iconst 1, 1) := by decide +kernel
theorem dX12_whatIs_11 : decode cX12_whatIs 11 = .ok (.invokestatic 49, 3) := by decide +kernel
theorem dX12_whatIs_14 : decode cX12_whatIs 14 = .ok (.ifCond .ne 5, 3) := by decide +kernel
theorem dX12_whatIs_17 : decode cX12_whatIs 17 = .ok (.iconst (-1), 1) := by decide +kernel
theorem dX12_whatIs_18 : decode cX12_whatIs 18 = .ok (.ireturn, 1) := by decide +kernel
theorem dX12_whatIs_19 : decode cX12_whatIs 19 = .ok (.aload_n 0, 1) := by decide +kernel
theorem dX12_whatIs_20 : decode cX12_whatIs 20 = .ok (.iload_n 1, 1) := by decide +kernel
theorem dX12_whatIs_21 : decode cX12_whatIs 21 = .ok (.iconst (-1), 1) := by decide +kernel
theorem dX12_whatIs_22 : decode cX12_whatIs 22 = .ok (.invokevirtual 134, 3) := by decide +kernel
theorem dX12_whatIs_25 : decode cX12_whatIs 25 = .ok (.istore 4, 2) := by decide +kernel
theorem dX12_whatIs_27 : decode cX12_whatIs 27 = .ok (.iload 4, 2) := by decide +kernel
theorem dX12_whatIs_29 : decode cX12_whatIs 29 = .ok (.ifCond .eq 6, 3) := by decide +kernel
theorem dX12_whatIs_32 : decode cX12_whatIs 32 = .ok (.iload 4, 2) := by decide +kernel
theorem dX12_whatIs_34 : decode cX12_whatIs 34 = .ok (.ireturn, 1) := by decide +kernel
theorem dX12_whatIs_35 : decode cX12_whatIs 35 = .ok (.iconst 0, 1) := by decide +kernel
theorem dX12_whatIs_36 : decode cX12_whatIs 36 = .ok (.istore 5, 2) := by decide +kernel
theorem dX12_whatIs_38 : decode cX12_whatIs 38 = .ok (.iconst 0, 1) := by decide +kernel
theorem dX12_whatIs_39 : decode cX12_whatIs 39 = .ok (.istore 6, 2) := by decide +kernel
theorem dX12_whatIs_41 : decode cX12_whatIs 41 = .ok (.iload 6, 2) := by decide +kernel
theorem dX12_whatIs_43 : decode cX12_whatIs 43 = .ok (.iload_n 3, 1) := by decide +kernel
theorem dX12_whatIs_44 : decode cX12_whatIs 44 = .ok (.ifCond .ne 8, 3) := by decide +kernel
theorem dX12_whatIs_47 : decode cX12_whatIs 47 = .ok (.bipush 8, 2) := by decide +kernel
theorem dX12_whatIs_49 : decode cX12_whatIs 49 = .ok (.goto 5, 3) := by decide +kernel
theorem dX12_whatIs_52 : decode cX12_whatIs 52 = .ok (.bipush 10, 2) := by decide +kernel
theorem dX12_whatIs_54 : decode cX12_whatIs 54 = .ok (.if_icmp .ge 103, 3) := by decide +kernel
theorem dX12_whatIs_57 : decode cX12_whatIs 57 = .ok (.iconst 1, 1) := by decide +kernel
theorem dX12_whatIs_58 : decode cX12_whatIs 58 = .ok (.istore 7, 2) := by decide +kernel
theorem dX12_whatIs_60 : decode cX12_whatIs 60 = .ok (.aload_n 0, 1) := by decide +kernel
theorem dX12_whatIs_61 : decode cX12_whatIs 61 = .ok (.getfield 9, 3) := by decide +kernel
theorem dX12_whatIs_64 : decode cX12_whatIs 64 = .ok (.aload_n 0, 1) := by decide +kernel
theorem dX12_whatIs_65 : decode cX12_whatIs 65 = .ok (.getfield 13, 3) := by decide +kernel
theorem dX12_whatIs_68 : decode cX12_whatIs 68 = .ok (.invokestatic 141, 3) := by decide +kernel
theorem dX12_whatIs_71 : decode cX12_whatIs 71 = .ok (.aload_n 0, 1) := by decide +kernel
theorem dX12_whatIs_72 : decode cX12_whatIs 72 = .ok (.getfield 13, 3) := by decide +kernel
theorem dX12_whatIs_75 : decode cX12_whatIs 75 = .ok (.iload_n 2, 1) := by decide +kernel
theorem dX12_whatIs_76 : decode cX12_whatIs 76 = .ok (.iload_n 3, 1) := by decide +kernel
theorem dX12_whatIs_77 : decode cX12_whatIs 77 = .ok (.invokestatic 53, 3) := by decide +kernel
theorem dX12_whatIs_80 : decode cX12_whatIs 80 = .ok (.iload 6, 2) := by decide +kernel
theorem dX12_whatIs_82 : decode cX12_whatIs 82 = .ok (.iastore, 1) := by decide +kernel
theorem dX12_whatIs_83 : decode cX12_whatIs 83 = .ok (.iconst 0, 1) := by decide +kernel
theorem dX12_whatIs_84 : decode cX12_whatIs 84 = .ok (.istore 8, 2) := by decide +kernel
theorem dX12_whatIs_86 : decode cX12_whatIs 86 = .ok (.iload 8, 2) := by decide +kernel
theorem dX12_whatIs_88 : decode cX12_whatIs 88 = .ok (.aload_n 0, 1) := by decide +kernel
theorem dX12_whatIs_89 : decode cX12_whatIs 89 = .ok (.getfield 43, 3) := by decide +kernel
theorem dX12_whatIs_92 : decode cX12_whatIs 92 = .ok (.iload_n 1, 1) := by decide +kernel
theorem dX12_whatIs_93 : decode cX12_whatIs 93 = .ok (.iaload, 1) := by decide +kernel
theorem dX12_whatIs_94 : decode cX12_whatIs 94 = .ok (.if_icmp .ge 39, 3) := by decide +kernel
theorem dX12_whatIs_97 : decode cX12_whatIs 97 = .ok (.iload 7, 2) := by decide +kernel
theorem dX12_whatIs_99 : decode cX12_whatIs 99 = .ok (.aload_n 0, 1) := by decide +kernel
theorem dX12_whatIs_100 : decode cX12_whatIs 100 = .ok (.iload_n 1, 1) := by decide +kernel
theorem dX12_whatIs_101 : decode cX12_whatIs 101 = .ok (.iload 8, 2) := by decide +kernel
theorem dX12_whatIs_103 : decode cX12_whatIs 103 = .ok (.aload_n 0, 1) := by decide +kernel
theorem dX12_whatIs_104 : decode cX12_whatIs 104 = .ok (.getfield 13, 3) := by decide +kernel
theorem dX12_whatIs_107 : decode cX12_whatIs 107 = .ok (.iload_n 2, 1) := by decide +kernel
theorem dX12_whatIs_108 : decode cX12_whatIs 108 = .ok (.iconst 2, 1) := by decide +kernel
theorem dX12_whatIs_109 : decode cX12_whatIs 109 = .ok (.invokestatic 53, 3) := by decide +kernel
theorem dX12_whatIs_112 : decode cX12_whatIs 112 = .ok (.iaload, 1) := by decide +kernel
theorem dX12_whatIs_113 : decode cX12_whatIs 113 = .ok (.invokevirtual 207, 3) := by decide +kernel
theorem dX12_whatIs_116 : decode cX12_whatIs 116 = .ok (.iand, 1) := by decide +kernel
theorem dX12_whatIs_117 : decode cX12_whatIs 117 = .ok (.istore 7, 2) := by decide +kernel
theorem dX12_whatIs_119 : decode cX12_whatIs 119 = .ok (.aload_n 0, 1) := by decide +kernel
theorem dX12_whatIs_120 : decode cX12_whatIs 120 = .ok (.getfield 13, 3) := by decide +kernel
theorem dX12_whatIs_123 : decode cX12_whatIs 123 = .ok (.iconst 0, 1) := by decide +kernel
theorem dX12_whatIs_124 : decode cX12_whatIs 124 = .ok (.invokestatic 82, 3) := by decide +kernel
theorem dX12_whatIs_127 : decode cX12_whatIs 127 = .ok (.iinc 8 1, 3) := by decide +kernel
theorem dX12_whatIs_130 : decode cX12_whatIs 130 = .ok (.goto (-44), 3) := by decide +kernel
theorem dX12_whatIs_133 : decode cX12_whatIs 133 = .ok (.iload 5, 2) := by decide +kernel
theorem dX12_whatIs_135 : decode cX12_whatIs 135 = .ok (.iload 7, 2) := by decide +kernel
theorem dX12_whatIs_137 : decode cX12_whatIs 137 = .ok (.ifCond .eq 10, 3) := by decide +kernel
theorem dX12_whatIs_140 : decode cX12_whatIs 140 = .ok (.iconst 1, 1) := by decide +kernel
theorem dX12_whatIs_141 : decode cX12_whatIs 141 = .ok (.iload 6, 2) := by decide +kernel
theorem dX12_whatIs_143 : decode cX12_whatIs 143 = .ok (.ishl, 1) := by decide +kernel
theorem dX12_whatIs_144 : decode cX12_whatIs 144 = .ok (.goto 4, 3) := by decide +kernel
theorem dX12_whatIs_147 : decode cX12_whatIs 147 = .ok (.iconst 0, 1) := by decide +kernel
theorem dX12_whatIs_148 : decode cX12_whatIs 148 = .ok (.ior, 1) := by decide +kernel
theorem dX12_whatIs_149 : decode cX12_whatIs 149 = .ok (.istore 5, 2) := by decide +kernel
theorem dX12_whatIs_151 : decode cX12_whatIs 151 = .ok (.iinc 6 1, 3) := by decide +kernel
theorem dX12_whatIs_154 : decode cX12_whatIs 154 = .ok (.goto (-113), 3) := by decide +kernel
theorem dX12_whatIs_157 : decode cX12_whatIs 157 = .ok (.iload 5, 2) := by decide +kernel
theorem dX12_whatIs_159 : decode cX12_whatIs 159 = .ok (.ireturn, 1) := by decide +kernel
theorem dX12_hasComeSo_0 : decode cX12_hasComeSo 0 = .ok (.aload_n 0, 1) := by decide +kernel
theorem dX12_hasComeSo_1 : decode cX12_hasComeSo 1 = .ok (.getfield 9, 3) := by decide +kernel
theorem dX12_hasComeSo_4 : decode cX12_hasComeSo 4 = .ok (.aload_n 0, 1) := by decide +kernel
theorem dX12_hasComeSo_5 : decode cX12_hasComeSo 5 = .ok (.getfield 13, 3) := by decide +kernel
theorem dX12_hasComeSo_8 : decode cX12_hasComeSo 8 = .ok (.invokestatic 141, 3) := by decide +kernel
theorem dX12_hasComeSo_11 : decode cX12_hasComeSo 11 = .ok (.aload_n 0, 1) := by decide +kernel
theorem dX12_hasComeSo_12 : decode cX12_hasComeSo 12 = .ok (.getfield 13, 3) := by decide +kernel
theorem dX12_hasComeSo_15 : decode cX12_hasComeSo 15 = .ok (.iload_n 2, 1) := by decide +kernel
theorem dX12_hasComeSo_16 : decode cX12_hasComeSo 16 = .ok (.iconst 3, 1) := by decide +kernel
theorem dX12_hasComeSo_17 : decode cX12_hasComeSo 17 = .ok (.invokestatic 53, 3) := by decide +kernel
theorem dX12_hasComeSo_20 : decode cX12_hasComeSo 20 = .ok (.iload_n 3, 1) := by decide +kernel
theorem dX12_hasComeSo_21 : decode cX12_hasComeSo 21 = .ok (.iastore, 1) := by decide +kernel
theorem dX12_hasComeSo_22 : decode cX12_hasComeSo 22 = .ok (.iconst 0, 1) := by decide +kernel
theorem dX12_hasComeSo_23 : decode cX12_hasComeSo 23 = .ok (.istore 4, 2) := by decide +kernel
theorem dX12_hasComeSo_25 : decode cX12_hasComeSo 25 = .ok (.iload 4, 2) := by decide +kernel
theorem dX12_hasComeSo_27 : decode cX12_hasComeSo 27 = .ok (.aload_n 0, 1) := by decide +kernel
theorem dX12_hasComeSo_28 : decode cX12_hasComeSo 28 = .ok (.getfield 43, 3) := by decide +kernel
theorem dX12_hasComeSo_31 : decode cX12_hasComeSo 31 = .ok (.iload_n 1, 1) := by decide +kernel
theorem dX12_hasComeSo_32 : decode cX12_hasComeSo 32 = .ok (.iaload, 1) := by decide +kernel
theorem dX12_hasComeSo_33 : decode cX12_hasComeSo 33 = .ok (.if_icmp .ge 40, 3) := by decide +kernel
theorem dX12_hasComeSo_36 : decode cX12_hasComeSo 36 = .ok (.aload_n 0, 1) := by decide +kernel
theorem dX12_hasComeSo_37 : decode cX12_hasComeSo 37 = .ok (.iload_n 1, 1) := by decide +kernel
theorem dX12_hasComeSo_38 : decode cX12_hasComeSo 38 = .ok (.iload 4, 2) := by decide +kernel
theorem dX12_hasComeSo_40 : decode cX12_hasComeSo 40 = .ok (.aload_n 0, 1) := by decide +kernel
theorem dX12_hasComeSo_41 : decode cX12_hasComeSo 41 = .ok (.getfield 13, 3) := by decide +kernel
theorem dX12_hasComeSo_44 : decode cX12_hasComeSo 44 = .ok (.iload_n 2, 1) := by decide +kernel
theorem dX12_hasComeSo_45 : decode cX12_hasComeSo 45 = .ok (.bipush 6, 2) := by decide +kernel
theorem dX12_hasComeSo_47 : decode cX12_hasComeSo 47 = .ok (.invokestatic 53, 3) := by decide +kernel
theorem dX12_hasComeSo_50 : decode cX12_hasComeSo 50 = .ok (.iaload, 1) := by decide +kernel
theorem dX12_hasComeSo_51 : decode cX12_hasComeSo 51 = .ok (.invokevirtual 207, 3) := by decide +kernel
theorem dX12_hasComeSo_54 : decode cX12_hasComeSo 54 = .ok (.ifCond .ne 5, 3) := by decide +kernel
theorem dX12_hasComeSo_57 : decode cX12_hasComeSo 57 = .ok (.iconst 0, 1) := by decide +kernel
theorem dX12_hasComeSo_58 : decode cX12_hasComeSo 58 = .ok (.ireturn, 1) := by decide +kernel
theorem dX12_hasComeSo_59 : decode cX12_hasComeSo 59 = .ok (.aload_n 0, 1) := by decide +kernel
theorem dX12_hasComeSo_60 : decode cX12_hasComeSo 60 = .ok (.getfield 13, 3) := by decide +kernel
theorem dX12_hasComeSo_63 : decode cX12_hasComeSo 63 = .ok (.iconst 0, 1) := by decide +kernel
theorem dX12_hasComeSo_64 : decode cX12_hasComeSo 64 = .ok (.invokestatic 82, 3) := by decide +kernel
theorem dX12_hasComeSo_67 : decode cX12_hasComeSo 67 = .ok (.iinc 4 1, 3) := by decide +kernel
theorem dX12_hasComeSo_70 : decode cX12_hasComeSo 70 = .ok (.goto (-45), 3) := by decide +kernel
theorem dX12_hasComeSo_73 : decode cX12_hasComeSo 73 = .ok (.iconst 1, 1) := by decide +kernel
theorem dX12_hasComeSo_74 : decode cX12_hasComeSo 74 = .ok (.ireturn, 1) := by decide +kernel
theorem dX12_cameWith_0 : decode cX12_cameWith 0 = .ok (.aload_n 0, 1) := by decide +kernel
theorem dX12_cameWith_1 : decode cX12_cameWith 1 = .ok (.iload_n 2, 1) := by decide +kernel
theorem dX12_cameWith_2 : decode cX12_cameWith 2 = .ok (.invokevirtual 113, 3) := by decide +kernel
theorem dX12_cameWith_5 : decode cX12_cameWith 5 = .ok (.ifCond .eq 12, 3) := by decide +kernel
theorem dX12_cameWith_8 : decode cX12_cameWith 8 = .ok (.iload_n 3, 1) := by decide +kernel
theorem dX12_cameWith_9 : decode cX12_cameWith 9 = .ok (.iconst 0, 1) := by decide +kernel
theorem dX12_cameWith_10 : decode cX12_cameWith 10 = .ok (.iconst 2, 1) := by decide +kernel
theorem dX12_cameWith_11 : decode cX12_cameWith 11 = .ok (.invokestatic 49, 3) := by decide +kernel
theorem dX12_cameWith_14 : decode cX12_cameWith 14 = .ok (.ifCond .ne 5, 3) := by decide +kernel
theorem dX12_cameWith_17 : decode cX12_cameWith 17 = .ok (.iconst (-1), 1) := by decide +kernel
theorem dX12_cameWith_18 : decode cX12_cameWith 18 = .ok (.ireturn, 1) := by decide +kernel
theorem dX12_cameWith_19 : decode cX12_cameWith 19 = .ok (.aload_n 0, 1) := by decide +kernel
theorem dX12_cameWith_20 : decode cX12_cameWith 20 = .ok (.iload_n 1, 1) := by decide +kernel
theorem dX12_cameWith_21 : decode cX12_cameWith 21 = .ok (.iconst (-1), 1) := by decide +kernel
theorem dX12_cameWith_22 : decode cX12_cameWith 22 = .ok (.invokevirtual 134, 3) := by decide +kernel
theorem dX12_cameWith_25 : decode cX12_cameWith 25 = .ok (.istore 4, 2) := by decide +kernel
theorem dX12_cameWith_27 : decode cX12_cameWith 27 = .ok (.iload 4, 2) := by decide +kernel
theorem dX12_cameWith_29 : decode cX12_cameWith 29 = .ok (.ifCond .eq 6, 3) := by decide +kernel
theorem dX12_cameWith_32 : decode cX12_cameWith 32 = .ok (.iload 4, 2) := by decide +kernel
theorem dX12_cameWith_34 : decode cX12_cameWith 34 = .ok (.ireturn, 1) := by decide +kernel
theorem dX12_cameWith_35 : decode cX12_cameWith 35 = .ok (.iconst 0, 1) := by decide +kernel
theorem dX12_cameWith_36 : decode cX12_cameWith 36 = .ok (.istore 5, 2) := by decide +kernel
theorem dX12_cameWith_38 : decode cX12_cameWith 38 = .ok (.bipush (-4), 2) := by decide +kernel
theorem dX12_cameWith_40 : decode cX12_cameWith 40 = .ok (.istore 6, 2) := by decide +kernel
theorem dX12_cameWith_42 : decode cX12_cameWith 42 = .ok (.bipush (-4), 2) := by decide +kernel
theorem dX12_cameWith_44 : decode cX12_cameWith 44 = .ok (.istore 7, 2) := by decide +kernel
theorem dX12_cameWith_46 : decode cX12_cameWith 46 = .ok (.iconst 0, 1) := by decide +kernel
theorem dX12_cameWith_47 : decode cX12_cameWith 47 = .ok (.istore 8, 2) := by decide +kernel
theorem dX12_cameWith_49 : decode cX12_cameWith 49 = .ok (.iload 8, 2) := by decide +kernel
theorem dX12_cameWith_51 : decode cX12_cameWith 51 = .ok (.bipush 120, 2) := by decide +kernel
theorem dX12_cameWith_53 : decode cX12_cameWith 53 = .ok (.if_icmp .gt 44, 3) := by decide +kernel
theorem dX12_cameWith_56 : decode cX12_cameWith 56 = .ok (.aload_n 0, 1) := by decide +kernel
theorem dX12_cameWith_57 : decode cX12_cameWith 57 = .ok (.iload_n 1, 1) := by decide +kernel
theorem dX12_cameWith_58 : decode cX12_cameWith 58 = .ok (.iload_n 2, 1) := by decide +kernel
theorem dX12_cameWith_59 : decode cX12_cameWith 59 = .ok (.iload 8, 2) := by decide +kernel
theorem dX12_cameWith_61 : decode cX12_cameWith 61 = .ok (.invokevirtual 210, 3) := by decide +kernel
theorem dX12_cameWith_64 : decode cX12_cameWith 64 = .ok (.ifCond .ne 6, 3) := by decide +kernel
theorem dX12_cameWith_67 : decode cX12_cameWith 67 = .ok (.goto 24, 3) := by decide +kernel
theorem dX12_cameWith_70 : decode cX12_cameWith 70 = .ok (.iload 5, 2) := by decide +kernel
theorem dX12_cameWith_72 : decode cX12_cameWith 72 = .ok (.ifCond .ne 8, 3) := by decide +kernel
theorem dX12_cameWith_75 : decode cX12_cameWith 75 = .ok (.iload 8, 2) := by decide +kernel
theorem dX12_cameWith_77 : decode cX12_cameWith 77 = .ok (.goto 5, 3) := by decide +kernel
theorem dX12_cameWith_80 : decode cX12_cameWith 80 = .ok (.iload 6, 2) := by decide +kernel
theorem dX12_cameWith_82 : decode cX12_cameWith 82 = .ok (.istore 6, 2) := by decide +kernel
theorem dX12_cameWith_84 : decode cX12_cameWith 84 = .ok (.iload 8, 2) := by decide +kernel
theorem dX12_cameWith_86 : decode cX12_cameWith 86 = .ok (.istore 7, 2) := by decide +kernel
theorem dX12_cameWith_88 : decode cX12_cameWith 88 = .ok (.iinc 5 1, 3) := by decide +kernel
theorem dX12_cameWith_91 : decode cX12_cameWith 91 = .ok (.iinc 8 1, 3) := by decide +kernel
theorem dX12_cameWith_94 : decode cX12_cameWith 94 = .ok (.goto (-45), 3) := by decide +kernel
theorem dX12_cameWith_97 : decode cX12_cameWith 97 = .ok (.iload_n 3, 1) := by decide +kernel
theorem dX12_cameWith_98 : decode cX12_cameWith 98 = .ok (.ifCond .ne 8, 3) := by decide +kernel
theorem dX12_cameWith_101 : decode cX12_cameWith 101 = .ok (.iload 5, 2) := by decide +kernel
theorem dX12_cameWith_103 : decode cX12_cameWith 103 = .ok (.goto 15, 3) := by decide +kernel
theorem dX12_cameWith_106 : decode cX12_cameWith 106 = .ok (.iload_n 3, 1) := by decide +kernel
theorem dX12_cameWith_107 : decode cX12_cameWith 107 = .ok (.iconst 1, 1) := by decide +kernel
theorem dX12_cameWith_108 : decode cX12_cameWith 108 = .ok (.if_icmp .ne 8, 3) := by decide +kernel
theorem dX12_cameWith_111 : decode cX12_cameWith 111 = .ok (.iload 6, 2) := by decide +kernel
theorem dX12_cameWith_113 : decode cX12_cameWith 113 = .ok (.goto 5, 3) := by decide +kernel
theorem dX12_cameWith_116 : decode cX12_cameWith 116 = .ok (.iload 7, 2) := by decide +kernel
theorem dX12_cameWith_118 : decode cX12_cameWith 118 = .ok (.ireturn, 1) := by decide +kernel
theorem dX12_hasBy_0 : decode cX12_hasBy 0 = .ok (.aload_n 0, 1) := by decide +kernel
theorem dX12_hasBy_1 : decode cX12_hasBy 1 = .ok (.getfield 9, 3) := by decide +kernel
theorem dX12_hasBy_4 : decode cX12_hasBy 4 = .ok (.aload_n 0, 1) := by decide +kernel
theorem dX12_hasBy_5 : decode cX12_hasBy 5 = .ok (.getfield 13, 3) := by decide +kernel
theorem dX12_hasBy_8 : decode cX12_hasBy 8 = .ok (.invokestatic 141, 3) := by decide +kernel
theorem dX12_hasBy_11 : decode cX12_hasBy 11 = .ok (.aload_n 0, 1) := by decide +kernel
theorem dX12_hasBy_12 : decode cX12_hasBy 12 = .ok (.getfield 13, 3) := by decide +kernel
theorem dX12_hasBy_15 : decode cX12_hasBy 15 = .ok (.iload_n 3, 1) := by decide +kernel
theorem dX12_hasBy_16 : decode cX12_hasBy 16 = .ok (.iload_n 2, 1) := by decide +kernel
theorem dX12_hasBy_17 : decode cX12_hasBy 17 = .ok (.ishl, 1) := by decide +kernel
theorem dX12_hasBy_18 : decode cX12_hasBy 18 = .ok (.iload 5, 2) := by decide +kernel
theorem dX12_hasBy_20 : decode cX12_hasBy 20 = .ok (.iload 4, 2) := by decide +kernel
theorem dX12_hasBy_22 : decode cX12_hasBy 22 = .ok (.ishl, 1) := by decide +kernel
theorem dX12_hasBy_23 : decode cX12_hasBy 23 = .ok (.ior, 1) := by decide +kernel
theorem dX12_hasBy_24 : decode cX12_hasBy 24 = .ok (.invokestatic 82, 3) := by decide +kernel
theorem dX12_hasBy_27 : decode cX12_hasBy 27 = .ok (.aload_n 0, 1) := by decide +kernel
theorem dX12_hasBy_28 : decode cX12_hasBy 28 = .ok (.getfield 13, 3) := by decide +kernel
theorem dX12_hasBy_31 : decode cX12_hasBy 31 = .ok (.iload 6, 2) := by decide +kernel
theorem dX12_hasBy_33 : decode cX12_hasBy 33 = .ok (.iconst 1, 1) := by decide +kernel
theorem dX12_hasBy_34 : decode cX12_hasBy 34 = .ok (.isub, 1) := by decide +kernel
theorem dX12_hasBy_35 : decode cX12_hasBy 35 = .ok (.invokestatic 131, 3) := by decide +kernel
theorem dX12_hasBy_38 : decode cX12_hasBy 38 = .ok (.aload_n 0, 1) := by decide +kernel
theorem dX12_hasBy_39 : decode cX12_hasBy 39 = .ok (.getfield 13, 3) := by decide +kernel
theorem dX12_hasBy_42 : decode cX12_hasBy 42 = .ok (.iload_n 1, 1) := by decide +kernel
theorem dX12_hasBy_43 : decode cX12_hasBy 43 = .ok (.invokestatic 61, 3) := by decide +kernel
theorem dX12_hasBy_46 : decode cX12_hasBy 46 = .ok (.ifCond .eq 19, 3) := by decide +kernel
theorem dX12_hasBy_49 : decode cX12_hasBy 49 = .ok (.aload_n 0, 1) := by decide +kernel
theorem dX12_hasBy_50 : decode cX12_hasBy 50 = .ok (.getfield 13, 3) := by decide +kernel
theorem dX12_hasBy_53 : decode cX12_hasBy 53 = .ok (.iload_n 1, 1) := by decide +kernel
theorem dX12_hasBy_54 : decode cX12_hasBy 54 = .ok (.iconst 2, 1) := by decide +kernel
theorem dX12_hasBy_55 : decode cX12_hasBy 55 = .ok (.invokestatic 53, 3) := by decide +kernel
theorem dX12_hasBy_58 : decode cX12_hasBy 58 = .ok (.iaload, 1) := by decide +kernel
theorem dX12_hasBy_59 : decode cX12_hasBy 59 = .ok (.bipush 20, 2) := by decide +kernel
theorem dX12_hasBy_61 : decode cX12_hasBy 61 = .ok (.idiv, 1) := by decide +kernel
theorem dX12_hasBy_62 : decode cX12_hasBy 62 = .ok (.goto 5, 3) := by decide +kernel
theorem dX12_hasBy_65 : decode cX12_hasBy 65 = .ok (.bipush 6, 2) := by decide +kernel
theorem dX12_hasBy_67 : decode cX12_hasBy 67 = .ok (.iload_n 1, 1) := by decide +kernel
theorem dX12_hasBy_68 : decode cX12_hasBy 68 = .ok (.iload_n 2, 1) := by decide +kernel
theorem dX12_hasBy_69 : decode cX12_hasBy 69 = .ok (.if_icmp .ne 7, 3) := by decide +kernel
theorem dX12_hasBy_72 : decode cX12_hasBy 72 = .ok (.iload_n 3, 1) := by decide +kernel
theorem dX12_hasBy_73 : decode cX12_hasBy 73 = .ok (.goto 5, 3) := by decide +kernel
theorem dX12_hasBy_76 : decode cX12_hasBy 76 = .ok (.iload 5, 2) := by decide +kernel
theorem dX12_hasBy_78 : decode cX12_hasBy 78 = .ok (.isub, 1) := by decide +kernel
theorem dX12_hasBy_79 : decode cX12_hasBy 79 = .ok (.ireturn, 1) := by decide +kernel
theorem dX12_two_0 : decode cX12_two 0 = .ok (.aload_n 0, 1) := by decide +kernel
theorem dX12_two_1 : decode cX12_two 1 = .ok (.iload_n 1, 1) := by decide +kernel
theorem dX12_two_2 : decode cX12_two 2 = .ok (.invokevirtual 113, 3) := by decide +kernel
theorem dX12_two_5 : decode cX12_two 5 = .ok (.ifCond .eq 26, 3) := by decide +kernel
theorem dX12_two_8 : decode cX12_two 8 = .ok (.aload_n 0, 1) := by decide +kernel
theorem dX12_two_9 : decode cX12_two 9 = .ok (.iload_n 2, 1) := by decide +kernel
theorem dX12_two_10 : decode cX12_two 10 = .ok (.invokevirtual 113, 3) := by decide +kernel
theorem dX12_two_13 : decode cX12_two 13 = .ok (.ifCond .eq 18, 3) := by decide +kernel
theorem dX12_two_16 : decode cX12_two 16 = .ok (.iload_n 1, 1) := by decide +kernel
theorem dX12_two_17 : decode cX12_two 17 = .ok (.iload_n 2, 1) := by decide +kernel
theorem dX12_two_18 : decode cX12_two 18 = .ok (.if_icmp .eq 13, 3) := by decide +kernel
theorem dX12_two_21 : decode cX12_two 21 = .ok (.iload_n 3, 1) := by decide +kernel
theorem dX12_two_22 : decode cX12_two 22 = .ok (.iconst 1, 1) := by decide +kernel
theorem dX12_two_23 : decode cX12_two 23 = .ok (.bipush 30, 2) := by decide +kernel
theorem dX12_two_25 : decode cX12_two 25 = .ok (.invokestatic 49, 3) := by decide +kernel
theorem dX12_two_28 : decode cX12_two 28 = .ok (.ifCond .ne 5, 3) := by decide +kernel
theorem dX12_two_31 : decode cX12_two 31 = .ok (.iconst (-1), 1) := by decide +kernel
theorem dX12_two_32 : decode cX12_two 32 = .ok (.ireturn, 1) := by decide +kernel
theorem dX12_two_33 : decode cX12_two 33 = .ok (.aload_n 0, 1) := by decide +kernel
theorem dX12_two_34 : decode cX12_two 34 = .ok (.getfield 9, 3) := by decide +kernel
theorem dX12_two_37 : decode cX12_two 37 = .ok (.iload_n 1, 1) := by decide +kernel
theorem dX12_two_38 : decode cX12_two 38 = .ok (.invokestatic 61, 3) := by decide +kernel
theorem dX12_two_41 : decode cX12_two 41 = .ok (.ifCond .eq 14, 3) := by decide +kernel
theorem dX12_two_44 : decode cX12_two 44 = .ok (.aload_n 0, 1) := by decide +kernel
theorem dX12_two_45 : decode cX12_two 45 = .ok (.getfield 9, 3) := by decide +kernel
theorem dX12_two_48 : decode cX12_two 48 = .ok (.iload_n 2, 1) := by decide +kernel
theorem dX12_two_49 : decode cX12_two 49 = .ok (.invokestatic 61, 3) := by decide +kernel
theorem dX12_two_52 : decode cX12_two 52 = .ok (.ifCond .ne 6, 3) := by decide +kernel
theorem dX12_two_55 : decode cX12_two 55 = .ok (.bipush (-3), 2) := by decide +kernel
theorem dX12_two_57 : decode cX12_two 57 = .ok (.ireturn, 1) := by decide +kernel
theorem dX12_two_58 : decode cX12_two 58 = .ok (.iconst 0, 1) := by decide +kernel
theorem dX12_two_59 : decode cX12_two 59 = .ok (.istore 4, 2) := by decide +kernel
theorem dX12_two_61 : decode cX12_two 61 = .ok (.iload 4, 2) := by decide +kernel
theorem dX12_two_63 : decode cX12_two 63 = .ok (.iconst 4, 1) := by decide +kernel
theorem dX12_two_64 : decode cX12_two 64 = .ok (.if_icmp .ge 88, 3) := by decide +kernel
theorem dX12_two_67 : decode cX12_two 67 = .ok (.iload 4, 2) := by decide +kernel
theorem dX12_two_69 : decode cX12_two 69 = .ok (.iconst 2, 1) := by decide +kernel
theorem dX12_two_70 : decode cX12_two 70 = .ok (.idiv, 1) := by decide +kernel
theorem dX12_two_71 : decode cX12_two 71 = .ok (.istore 5, 2) := by decide +kernel
theorem dX12_two_73 : decode cX12_two 73 = .ok (.iload 4, 2) := by decide +kernel
theorem dX12_two_75 : decode cX12_two 75 = .ok (.iconst 2, 1) := by decide +kernel
theorem dX12_two_76 : decode cX12_two 76 = .ok (.irem, 1) := by decide +kernel
theorem dX12_two_77 : decode cX12_two 77 = .ok (.istore 6, 2) := by decide +kernel
theorem dX12_two_79 : decode cX12_two 79 = .ok (.aload_n 0, 1) := by decide +kernel
theorem dX12_two_80 : decode cX12_two 80 = .ok (.iload_n 1, 1) := by decide +kernel
theorem dX12_two_81 : decode cX12_two 81 = .ok (.iload_n 1, 1) := by decide +kernel
theorem dX12_two_82 : decode cX12_two 82 = .ok (.iconst 1, 1) := by decide +kernel
theorem dX12_two_83 : decode cX12_two 83 = .ok (.iload 5, 2) := by decide +kernel
theorem dX12_two_85 : decode cX12_two 85 = .ok (.isub, 1) := by decide +kernel
theorem dX12_two_86 : decode cX12_two 86 = .ok (.iload_n 2, 1) := by decide +kernel
theorem dX12_two_87 : decode cX12_two 87 = .ok (.iload 6, 2) := by decide +kernel
theorem dX12_two_89 : decode cX12_two 89 = .ok (.iload_n 3, 1) := by decide +kernel
theorem dX12_two_90 : decode cX12_two 90 = .ok (.invokevirtual 213, 3) := by decide +kernel
theorem dX12_two_93 : decode cX12_two 93 = .ok (.aload_n 0, 1) := by decide +kernel
theorem dX12_two_94 : decode cX12_two 94 = .ok (.iload_n 1, 1) := by decide +kernel
theorem dX12_two_95 : decode cX12_two 95 = .ok (.iload_n 1, 1) := by decide +kernel
theorem dX12_two_96 : decode cX12_two 96 = .ok (.iload 5, 2) := by decide +kernel
theorem dX12_two_98 : decode cX12_two 98 = .ok (.iload_n 2, 1) := by decide +kernel
theorem dX12_two_99 : decode cX12_two 99 = .ok (.iload 6, 2) := by decide +kernel
theorem dX12_two_101 : decode cX12_two 101 = .ok (.iload_n 3, 1) := by decide +kernel
theorem dX12_two_102 : decode cX12_two 102 = .ok (.invokevirtual 213, 3) := by decide +kernel
theorem dX12_two_105 : decode cX12_two 105 = .ok (.if_icmp .gt 41, 3) := by decide +kernel
theorem dX12_two_108 : decode cX12_two 108 = .ok (.aload_n 0, 1) := by decide +kernel
theorem dX12_two_109 : decode cX12_two 109 = .ok (.iload_n 2, 1) := by decide +kernel
theorem dX12_two_110 : decode cX12_two 110 = .ok (.iload_n 1, 1) := by decide +kernel
theorem dX12_two_111 : decode cX12_two 111 = .ok (.iload 5, 2) := by decide +kernel
theorem dX12_two_113 : decode cX12_two 113 = .ok (.iload_n 2, 1) := by decide +kernel
theorem dX12_two_114 : decode cX12_two 114 = .ok (.iconst 1, 1) := by decide +kernel
theorem dX12_two_115 : decode cX12_two 115 = .ok (.iload 6, 2) := by decide +kernel
theorem dX12_two_117 : decode cX12_two 117 = .ok (.isub, 1) := by decide +kernel
theorem dX12_two_118 : decode cX12_two 118 = .ok (.iload_n 3, 1) := by decide +kernel
theorem dX12_two_119 : decode cX12_two 119 = .ok (.invokevirtual 213, 3) := by decide +kernel
theorem dX12_two_122 : decode cX12_two 122 = .ok (.aload_n 0, 1) := by decide +kernel
theorem dX12_two_123 : decode cX12_two 123 = .ok (.iload_n 2, 1) := by decide +kernel
theorem dX12_two_124 : decode cX12_two 124 = .ok (.iload_n 1, 1) := by decide +kernel
theorem dX12_two_125 : decode cX12_two 125 = .ok (.iload 5, 2) := by decide +kernel
theorem dX12_two_127 : decode cX12_two 127 = .ok (.iload_n 2, 1) := by decide +kernel
theorem dX12_two_128 : decode cX12_two 128 = .ok (.iload 6, 2) := by decide +kernel
theorem dX12_two_130 : decode cX12_two 130 = .ok (.iload_n 3, 1) := by decide +kernel
theorem dX12_two_131 : decode cX12_two 131 = .ok (.invokevirtual 213, 3) := by decide +kernel
theorem dX12_two_134 : decode cX12_two 134 = .ok (.if_icmp .gt 12, 3) := by decide +kernel
theorem dX12_two_137 : decode cX12_two 137 = .ok (.bipush 10, 2) := by decide +kernel
theorem dX12_two_139 : decode cX12_two 139 = .ok (.iload 5, 2) := by decide +kernel
theorem dX12_two_141 : decode cX12_two 141 = .ok (.imul, 1) := by decide +kernel
theorem dX12_two_142 : decode cX12_two 142 = .ok (.iload 6, 2) := by decide +kernel
theorem dX12_two_144 : decode cX12_two 144 = .ok (.iadd, 1) := by decide +kernel
theorem dX12_two_145 : decode cX12_two 145 = .ok (.ireturn, 1) := by decide +kernel
theorem dX12_two_146 : decode cX12_two 146 = .ok (.iinc 4 1, 3) := by decide +kernel
theorem dX12_two_149 : decode cX12_two 149 = .ok (.goto (-88), 3) := by decide +kernel
theorem dX12_two_152 : decode cX12_two 152 = .ok (.bipush (-4), 2) := by decide +kernel
theorem dX12_two_154 : decode cX12_two 154 = .ok (.ireturn, 1) := by decide +kernel
theorem dX12_gcd_0 : decode cX12_gcd 0 = .ok (.lload_n 0, 1) := by decide +kernel
theorem dX12_gcd_1 : decode cX12_gcd 1 = .ok (.lconst 0, 1) := by decide +kernel
theorem dX12_gcd_2 : decode cX12_gcd 2 = .ok (.lcmp, 1) := by decide +kernel
theorem dX12_gcd_3 : decode cX12_gcd 3 = .ok (.ifCond .ge 8, 3) := by decide +kernel
theorem dX12_gcd_6 : decode cX12_gcd 6 = .ok (.lload_n 0, 1) := by decide +kernel
theorem dX12_gcd_7 : decode cX12_gcd 7 = .ok (.lneg, 1) := by decide +kernel
theorem dX12_gcd_8 : decode cX12_gcd 8 = .ok (.goto 4, 3) := by decide +kernel
theorem dX12_gcd_11 : decode cX12_gcd 11 = .ok (.lload_n 0, 1) := by decide +kernel
theorem dX12_gcd_12 : decode cX12_gcd 12 = .ok (.lstore 4, 2) := by decide +kernel
theorem dX12_gcd_14 : decode cX12_gcd 14 = .ok (.lload_n 2, 1) := by decide +kernel
theorem dX12_gcd_15 : decode cX12_gcd 15 = .ok (.lstore 6, 2) := by decide +kernel
theorem dX12_gcd_17 : decode cX12_gcd 17 = .ok (.lload 6, 2) := by decide +kernel
theorem dX12_gcd_19 : decode cX12_gcd 19 = .ok (.lconst 0, 1) := by decide +kernel
theorem dX12_gcd_20 : decode cX12_gcd 20 = .ok (.lcmp, 1) := by decide +kernel
theorem dX12_gcd_21 : decode cX12_gcd 21 = .ok (.ifCond .eq 21, 3) := by decide +kernel
theorem dX12_gcd_24 : decode cX12_gcd 24 = .ok (.lload 4, 2) := by decide +kernel
theorem dX12_gcd_26 : decode cX12_gcd 26 = .ok (.lload 6, 2) := by decide +kernel
theorem dX12_gcd_28 : decode cX12_gcd 28 = .ok (.lrem, 1) := by decide +kernel
theorem dX12_gcd_29 : decode cX12_gcd 29 = .ok (.lstore 8, 2) := by decide +kernel
theorem dX12_gcd_31 : decode cX12_gcd 31 = .ok (.lload 6, 2) := by decide +kernel
theorem dX12_gcd_33 : decode cX12_gcd 33 = .ok (.lstore 4, 2) := by decide +kernel
theorem dX12_gcd_35 : decode cX12_gcd 35 = .ok (.lload 8, 2) := by decide +kernel
theorem dX12_gcd_37 : decode cX12_gcd 37 = .ok (.lstore 6, 2) := by decide +kernel
theorem dX12_gcd_39 : decode cX12_gcd 39 = .ok (.goto (-22), 3) := by decide +kernel
theorem dX12_gcd_42 : decode cX12_gcd 42 = .ok (.lload 4, 2) := by decide +kernel
theorem dX12_gcd_44 : decode cX12_gcd 44 = .ok (.lreturn, 1) := by decide +kernel
theorem dX12_partOf_0 : decode cX12_partOf 0 = .ok (.lload_n 0, 1) := by decide +kernel
theorem dX12_partOf_1 : decode cX12_partOf 1 = .ok (.lconst 0, 1) := by decide +kernel
theorem dX12_partOf_2 : decode cX12_partOf 2 = .ok (.lcmp, 1) := by decide +kernel
theorem dX12_partOf_3 : decode cX12_partOf 3 = .ok (.ifCond .ne 7, 3) := by decide +kernel
theorem dX12_partOf_6 : decode cX12_partOf 6 = .ok (.iload 4, 2) := by decide +kernel
theorem dX12_partOf_8 : decode cX12_partOf 8 = .ok (.i2l, 1) := by decide +kernel
theorem dX12_partOf_9 : decode cX12_partOf 9 = .ok (.lreturn, 1) := by decide +kernel
theorem dX12_partOf_10 : decode cX12_partOf 10 = .ok (.iload 4, 2) := by decide +kernel
theorem dX12_partOf_12 : decode cX12_partOf 12 = .ok (.ifCond .ne 7, 3) := by decide +kernel
theorem dX12_partOf_15 : decode cX12_partOf 15 = .ok (.lload_n 0, 1) := by decide +kernel
theorem dX12_partOf_16 : decode cX12_partOf 16 = .ok (.goto 4, 3) := by decide +kernel
theorem dX12_partOf_19 : decode cX12_partOf 19 = .ok (.lload_n 2, 1) := by decide +kernel
theorem dX12_partOf_20 : decode cX12_partOf 20 = .ok (.lload_n 0, 1) := by decide +kernel
theorem dX12_partOf_21 : decode cX12_partOf 21 = .ok (.lload_n 2, 1) := by decide +kernel
theorem dX12_partOf_22 : decode cX12_partOf 22 = .ok (.invokestatic 217, 3) := by decide +kernel
theorem dX12_partOf_25 : decode cX12_partOf 25 = .ok (.ldiv, 1) := by decide +kernel
theorem dX12_partOf_26 : decode cX12_partOf 26 = .ok (.lreturn, 1) := by decide +kernel
theorem dX12_feasts_0 : decode cX12_feasts 0 = .ok (.aload_n 0, 1) := by decide +kernel
theorem dX12_feasts_1 : decode cX12_feasts 1 = .ok (.iload_n 1, 1) := by decide +kernel
theorem dX12_feasts_2 : decode cX12_feasts 2 = .ok (.invokevirtual 113, 3) := by decide +kernel
theorem dX12_feasts_5 : decode cX12_feasts 5 = .ok (.ifCond .eq 33, 3) := by decide +kernel
theorem dX12_feasts_8 : decode cX12_feasts 8 = .ok (.iload_n 2, 1) := by decide +kernel
theorem dX12_feasts_9 : decode cX12_feasts 9 = .ok (.iconst 0, 1) := by decide +kernel
theorem dX12_feasts_10 : decode cX12_feasts 10 = .ok (.bipush 7, 2) := by decide +kernel
theorem dX12_feasts_12 : decode cX12_feasts 12 = .ok (.invokestatic 49, 3) := by decide +kernel
theorem dX12_feasts_15 : decode cX12_feasts 15 = .ok (.ifCond .eq 23, 3) := by decide +kernel
theorem dX12_feasts_18 : decode cX12_feasts 18 = .ok (.iload_n 3, 1) := by decide +kernel
theorem dX12_feasts_19 : decode cX12_feasts 19 = .ok (.iconst 2, 1) := by decide +kernel
theorem dX12_feasts_20 : decode cX12_feasts 20 = .ok (.bipush 20, 2) := by decide +kernel
theorem dX12_feasts_22 : decode cX12_feasts 22 = .ok (.invokestatic 49, 3) := by decide +kernel
theorem dX12_feasts_25 : decode cX12_feasts 25 = .ok (.ifCond .eq 13, 3) := by decide +kernel
theorem dX12_feasts_28 : decode cX12_feasts 28 = .ok (.iload 4, 2) := by decide +kernel
theorem dX12_feasts_30 : decode cX12_feasts 30 = .ok (.iconst 0, 1) := by decide +kernel
theorem dX12_feasts_31 : decode cX12_feasts 31 = .ok (.iconst 1, 1) := by decide +kernel
theorem dX12_feasts_32 : decode cX12_feasts 32 = .ok (.invokestatic 49, 3) := by decide +kernel
theorem dX12_feasts_35 : decode cX12_feasts 35 = .ok (.ifCond .ne 7, 3) := by decide +kernel
theorem dX12_feasts_38 : decode cX12_feasts 38 = .ok (.ldc2_w 221, 3) := by decide +kernel
theorem dX12_feasts_41 : decode cX12_feasts 41 = .ok (.lreturn, 1) := by decide +kernel
theorem dX12_feasts_42 : decode cX12_feasts 42 = .ok (.lconst 0, 1) := by decide +kernel
theorem dX12_feasts_43 : decode cX12_feasts 43 = .ok (.lstore 5, 2) := by decide +kernel
theorem dX12_feasts_45 : decode cX12_feasts 45 = .ok (.lconst 1, 1) := by decide +kernel
theorem dX12_feasts_46 : decode cX12_feasts 46 = .ok (.lstore 7, 2) := by decide +kernel
theorem dX12_feasts_48 : decode cX12_feasts 48 = .ok (.iconst 0, 1) := by decide +kernel
theorem dX12_feasts_49 : decode cX12_feasts 49 = .ok (.istore 9, 2) := by decide +kernel
theorem dX12_feasts_51 : decode cX12_feasts 51 = .ok (.iload 9, 2) := by decide +kernel
theorem dX12_feasts_53 : decode cX12_feasts 53 = .ok (.iload_n 2, 1) := by decide +kernel
theorem dX12_feasts_54 : decode cX12_feasts 54 = .ok (.if_icmp .ge 16, 3) := by decide +kernel
theorem dX12_feasts_57 : decode cX12_feasts 57 = .ok (.lload 7, 2) := by decide +kernel
theorem dX12_feasts_59 : decode cX12_feasts 59 = .ok (.iload_n 3, 1) := by decide +kernel
theorem dX12_feasts_60 : decode cX12_feasts 60 = .ok (.i2l, 1) := by decide +kernel
theorem dX12_feasts_61 : decode cX12_feasts 61 = .ok (.lmul, 1) := by decide +kernel
theorem dX12_feasts_62 : decode cX12_feasts 62 = .ok (.lstore 7, 2) := by decide +kernel
theorem dX12_feasts_64 : decode cX12_feasts 64 = .ok (.iinc 9 1, 3) := by decide +kernel
theorem dX12_feasts_67 : decode cX12_feasts 67 = .ok (.goto (-16), 3) := by decide +kernel
theorem dX12_feasts_70 : decode cX12_feasts 70 = .ok (.iconst 0, 1) := by decide +kernel
theorem dX12_feasts_71 : decode cX12_feasts 71 = .ok (.istore 9, 2) := by decide +kernel
theorem dX12_feasts_73 : decode cX12_feasts 73 = .ok (.iload 9, 2) := by decide +kernel
theorem dX12_feasts_75 : decode cX12_feasts 75 = .ok (.iconst 1, 1) := by decide +kernel
theorem dX12_feasts_76 : decode cX12_feasts 76 = .ok (.iload_n 2, 1) := by decide +kernel
theorem dX12_feasts_77 : decode cX12_feasts 77 = .ok (.ishl, 1) := by decide +kernel
theorem dX12_feasts_78 : decode cX12_feasts 78 = .ok (.if_icmp .ge 140, 3) := by decide +kernel
theorem dX12_feasts_81 : decode cX12_feasts 81 = .ok (.lconst 1, 1) := by decide +kernel
theorem dX12_feasts_82 : decode cX12_feasts 82 = .ok (.lstore 10, 2) := by decide +kernel
theorem dX12_feasts_84 : decode cX12_feasts 84 = .ok (.aload_n 0, 1) := by decide +kernel
theorem dX12_feasts_85 : decode cX12_feasts 85 = .ok (.getfield 9, 3) := by decide +kernel
theorem dX12_feasts_88 : decode cX12_feasts 88 = .ok (.aload_n 0, 1) := by decide +kernel
theorem dX12_feasts_89 : decode cX12_feasts 89 = .ok (.getfield 13, 3) := by decide +kernel
theorem dX12_feasts_92 : decode cX12_feasts 92 = .ok (.invokestatic 141, 3) := by decide +kernel
theorem dX12_feasts_95 : decode cX12_feasts 95 = .ok (.iconst 0, 1) := by decide +kernel
theorem dX12_feasts_96 : decode cX12_feasts 96 = .ok (.istore 12, 2) := by decide +kernel
theorem dX12_feasts_98 : decode cX12_feasts 98 = .ok (.iload 12, 2) := by decide +kernel
theorem dX12_feasts_100 : decode cX12_feasts 100 = .ok (.iload_n 2, 1) := by decide +kernel
theorem dX12_feasts_101 : decode cX12_feasts 101 = .ok (.if_icmp .ge 89, 3) := by decide +kernel
theorem dX12_feasts_104 : decode cX12_feasts 104 = .ok (.lload 10, 2) := by decide +kernel
theorem dX12_feasts_106 : decode cX12_feasts 106 = .ok (.iload 9, 2) := by decide +kernel
theorem dX12_feasts_108 : decode cX12_feasts 108 = .ok (.iload 12, 2) := by decide +kernel
theorem dX12_feasts_110 : decode cX12_feasts 110 = .ok (.invokestatic 68, 3) := by decide +kernel
theorem dX12_feasts_113 : decode cX12_feasts 113 = .ok (.ifCond .eq 7, 3) := by decide +kernel
theorem dX12_feasts_116 : decode cX12_feasts 116 = .ok (.lconst 1, 1) := by decide +kernel
theorem dX12_feasts_117 : decode cX12_feasts 117 = .ok (.goto 7, 3) := by decide +kernel
theorem dX12_feasts_120 : decode cX12_feasts 120 = .ok (.iload_n 3, 1) := by decide +kernel
theorem dX12_feasts_121 : decode cX12_feasts 121 = .ok (.iconst 1, 1) := by decide +kernel
theorem dX12_feasts_122 : decode cX12_feasts 122 = .ok (.isub, 1) := by decide +kernel
theorem dX12_feasts_123 : decode cX12_feasts 123 = .ok (.i2l, 1) := by decide +kernel
theorem dX12_feasts_124 : decode cX12_feasts 124 = .ok (.lmul, 1) := by decide +kernel
theorem dX12_feasts_125 : decode cX12_feasts 125 = .ok (.lstore 10, 2) := by decide +kernel
theorem dX12_feasts_127 : decode cX12_feasts 127 = .ok (.aload_n 0, 1) := by decide +kernel
theorem dX12_feasts_128 : decode cX12_feasts 128 = .ok (.getfield 13, 3) := by decide +kernel
theorem dX12_feasts_131 : decode cX12_feasts 131 = .ok (.iconst 3, 1) := by decide +kernel
theorem dX12_feasts_132 : decode cX12_feasts 132 = .ok (.iload 9, 2) := by decide +kernel
theorem dX12_feasts_134 : decode cX12_feasts 134 = .ok (.iload 12, 2) := by decide +kernel
theorem dX12_feasts_136 : decode cX12_feasts 136 = .ok (.invokestatic 68, 3) := by decide +kernel
theorem dX12_feasts_139 : decode cX12_feasts 139 = .ok (.ifCond .ne 12, 3) := by decide +kernel
theorem dX12_feasts_142 : decode cX12_feasts 142 = .ok (.aload_n 0, 1) := by decide +kernel
theorem dX12_feasts_143 : decode cX12_feasts 143 = .ok (.getfield 9, 3) := by decide +kernel
theorem dX12_feasts_146 : decode cX12_feasts 146 = .ok (.iconst 3, 1) := by decide +kernel
theorem dX12_feasts_147 : decode cX12_feasts 147 = .ok (.iaload, 1) := by decide +kernel
theorem dX12_feasts_148 : decode cX12_feasts 148 = .ok (.goto 27, 3) := by decide +kernel
theorem dX12_feasts_151 : decode cX12_feasts 151 = .ok (.aload_n 0, 1) := by decide +kernel
theorem dX12_feasts_152 : decode cX12_feasts 152 = .ok (.getfield 9, 3) := by decide +kernel
theorem dX12_feasts_155 : decode cX12_feasts 155 = .ok (.iconst 3, 1) := by decide +kernel
theorem dX12_feasts_156 : decode cX12_feasts 156 = .ok (.iaload, 1) := by decide +kernel
theorem dX12_feasts_157 : decode cX12_feasts 157 = .ok (.bipush 6, 2) := by decide +kernel
theorem dX12_feasts_159 : decode cX12_feasts 159 = .ok (.if_icmp .le 8, 3) := by decide +kernel
theorem dX12_feasts_162 : decode cX12_feasts 162 = .ok (.bipush 9, 2) := by decide +kernel
theorem dX12_feasts_164 : decode cX12_feasts 164 = .ok (.goto 11, 3) := by decide +kernel
theorem dX12_feasts_167 : decode cX12_feasts 167 = .ok (.aload_n 0, 1) := by decide +kernel
theorem dX12_feasts_168 : decode cX12_feasts 168 = .ok (.getfield 9, 3) := by decide +kernel
theorem dX12_feasts_171 : decode cX12_feasts 171 = .ok (.iconst 3, 1) := by decide +kernel
theorem dX12_feasts_172 : decode cX12_feasts 172 = .ok (.iaload, 1) := by decide +kernel
theorem dX12_feasts_173 : decode cX12_feasts 173 = .ok (.iconst 3, 1) := by decide +kernel
theorem dX12_feasts_174 : decode cX12_feasts 174 = .ok (.iadd, 1) := by decide +kernel
theorem dX12_feasts_175 : decode cX12_feasts 175 = .ok (.iastore, 1) := by decide +kernel
theorem dX12_feasts_176 : decode cX12_feasts 176 = .ok (.aload_n 0, 1) := by decide +kernel
theorem dX12_feasts_177 : decode cX12_feasts 177 = .ok (.getfield 13, 3) := by decide +kernel
theorem dX12_feasts_180 : decode cX12_feasts 180 = .ok (.iconst 0, 1) := by decide +kernel
theorem dX12_feasts_181 : decode cX12_feasts 181 = .ok (.invokestatic 82, 3) := by decide +kernel
theorem dX12_feasts_184 : decode cX12_feasts 184 = .ok (.iinc 12 1, 3) := by decide +kernel
theorem dX12_feasts_187 : decode cX12_feasts 187 = .ok (.goto (-89), 3) := by decide +kernel
theorem dX12_feasts_190 : decode cX12_feasts 190 = .ok (.lload 5, 2) := by decide +kernel
theorem dX12_feasts_192 : decode cX12_feasts 192 = .ok (.aload_n 0, 1) := by decide +kernel
theorem dX12_feasts_193 : decode cX12_feasts 193 = .ok (.getfield 13, 3) := by decide +kernel
theorem dX12_feasts_196 : decode cX12_feasts 196 = .ok (.iload_n 1, 1) := by decide +kernel
theorem dX12_feasts_197 : decode cX12_feasts 197 = .ok (.invokestatic 61, 3) := by decide +kernel
theorem dX12_feasts_200 : decode cX12_feasts 200 = .ok (.ifCond .eq 7, 3) := by decide +kernel
theorem dX12_feasts_203 : decode cX12_feasts 203 = .ok (.lconst 0, 1) := by decide +kernel
theorem dX12_feasts_204 : decode cX12_feasts 204 = .ok (.goto 5, 3) := by decide +kernel
theorem dX12_feasts_207 : decode cX12_feasts 207 = .ok (.lload 10, 2) := by decide +kernel
theorem dX12_feasts_209 : decode cX12_feasts 209 = .ok (.ladd, 1) := by decide +kernel
theorem dX12_feasts_210 : decode cX12_feasts 210 = .ok (.lstore 5, 2) := by decide +kernel
theorem dX12_feasts_212 : decode cX12_feasts 212 = .ok (.iinc 9 1, 3) := by decide +kernel
theorem dX12_feasts_215 : decode cX12_feasts 215 = .ok (.goto (-142), 3) := by decide +kernel
theorem dX12_feasts_218 : decode cX12_feasts 218 = .ok (.lload 5, 2) := by decide +kernel
theorem dX12_feasts_220 : decode cX12_feasts 220 = .ok (.lload 7, 2) := by decide +kernel
theorem dX12_feasts_222 : decode cX12_feasts 222 = .ok (.iload 4, 2) := by decide +kernel
theorem dX12_feasts_224 : decode cX12_feasts 224 = .ok (.invokestatic 223, 3) := by decide +kernel
theorem dX12_feasts_227 : decode cX12_feasts 227 = .ok (.lreturn, 1) := by decide +kernel
theorem dX12_mean_0 : decode cX12_mean 0 = .ok (.iload_n 1, 1) := by decide +kernel
theorem dX12_mean_1 : decode cX12_mean 1 = .ok (.iconst 0, 1) := by decide +kernel
theorem dX12_mean_2 : decode cX12_mean 2 = .ok (.iconst 1, 1) := by decide +kernel
theorem dX12_mean_3 : decode cX12_mean 3 = .ok (.invokestatic 49, 3) := by decide +kernel
theorem dX12_mean_6 : decode cX12_mean 6 = .ok (.ifCond .ne 7, 3) := by decide +kernel
theorem dX12_mean_9 : decode cX12_mean 9 = .ok (.ldc2_w 221, 3) := by decide +kernel
theorem dX12_mean_12 : decode cX12_mean 12 = .ok (.lreturn, 1) := by decide +kernel
theorem dX12_mean_13 : decode cX12_mean 13 = .ok (.lconst 0, 1) := by decide +kernel
theorem dX12_mean_14 : decode cX12_mean 14 = .ok (.lstore_n 2, 1) := by decide +kernel
theorem dX12_mean_15 : decode cX12_mean 15 = .ok (.iconst 0, 1) := by decide +kernel
theorem dX12_mean_16 : decode cX12_mean 16 = .ok (.istore 4, 2) := by decide +kernel
theorem dX12_mean_18 : decode cX12_mean 18 = .ok (.iconst 0, 1) := by decide +kernel
theorem dX12_mean_19 : decode cX12_mean 19 = .ok (.istore 5, 2) := by decide +kernel
theorem dX12_mean_21 : decode cX12_mean 21 = .ok (.iload 5, 2) := by decide +kernel
theorem dX12_mean_23 : decode cX12_mean 23 = .ok (.aload_n 0, 1) := by decide +kernel
theorem dX12_mean_24 : decode cX12_mean 24 = .ok (.getfield 9, 3) := by decide +kernel
theorem dX12_mean_27 : decode cX12_mean 27 = .ok (.iconst 0, 1) := by decide +kernel
theorem dX12_mean_28 : decode cX12_mean 28 = .ok (.iaload, 1) := by decide +kernel
theorem dX12_mean_29 : decode cX12_mean 29 = .ok (.if_icmp .ge 54, 3) := by decide +kernel
theorem dX12_mean_32 : decode cX12_mean 32 = .ok (.aload_n 0, 1) := by decide +kernel
theorem dX12_mean_33 : decode cX12_mean 33 = .ok (.getfield 9, 3) := by decide +kernel
theorem dX12_mean_36 : decode cX12_mean 36 = .ok (.iload 5, 2) := by decide +kernel
theorem dX12_mean_38 : decode cX12_mean 38 = .ok (.invokestatic 61, 3) := by decide +kernel
theorem dX12_mean_41 : decode cX12_mean 41 = .ok (.ifCond .eq 6, 3) := by decide +kernel
theorem dX12_mean_44 : decode cX12_mean 44 = .ok (.goto 33, 3) := by decide +kernel
theorem dX12_mean_47 : decode cX12_mean 47 = .ok (.lload_n 2, 1) := by decide +kernel
theorem dX12_mean_48 : decode cX12_mean 48 = .ok (.aload_n 0, 1) := by decide +kernel
theorem dX12_mean_49 : decode cX12_mean 49 = .ok (.getfield 9, 3) := by decide +kernel
theorem dX12_mean_52 : decode cX12_mean 52 = .ok (.iload 5, 2) := by decide +kernel
theorem dX12_mean_54 : decode cX12_mean 54 = .ok (.iconst 3, 1) := by decide +kernel
theorem dX12_mean_55 : decode cX12_mean 55 = .ok (.invokestatic 53, 3) := by decide +kernel
theorem dX12_mean_58 : decode cX12_mean 58 = .ok (.iaload, 1) := by decide +kernel
theorem dX12_mean_59 : decode cX12_mean 59 = .ok (.aload_n 0, 1) := by decide +kernel
theorem dX12_mean_60 : decode cX12_mean 60 = .ok (.getfield 9, 3) := by decide +kernel
theorem dX12_mean_63 : decode cX12_mean 63 = .ok (.iload 5, 2) := by decide +kernel
theorem dX12_mean_65 : decode cX12_mean 65 = .ok (.iconst 2, 1) := by decide +kernel
theorem dX12_mean_66 : decode cX12_mean 66 = .ok (.invokestatic 53, 3) := by decide +kernel
theorem dX12_mean_69 : decode cX12_mean 69 = .ok (.iaload, 1) := by decide +kernel
theorem dX12_mean_70 : decode cX12_mean 70 = .ok (.isub, 1) := by decide +kernel
theorem dX12_mean_71 : decode cX12_mean 71 = .ok (.i2l, 1) := by decide +kernel
theorem dX12_mean_72 : decode cX12_mean 72 = .ok (.ladd, 1) := by decide +kernel
theorem dX12_mean_73 : decode cX12_mean 73 = .ok (.lstore_n 2, 1) := by decide +kernel
theorem dX12_mean_74 : decode cX12_mean 74 = .ok (.iinc 4 1, 3) := by decide +kernel
theorem dX12_mean_77 : decode cX12_mean 77 = .ok (.iinc 5 1, 3) := by decide +kernel
theorem dX12_mean_80 : decode cX12_mean 80 = .ok (.goto (-59), 3) := by decide +kernel
theorem dX12_mean_83 : decode cX12_mean 83 = .ok (.lload_n 2, 1) := by decide +kernel
theorem dX12_mean_84 : decode cX12_mean 84 = .ok (.iload 4, 2) := by decide +kernel
theorem dX12_mean_86 : decode cX12_mean 86 = .ok (.i2l, 1) := by decide +kernel
theorem dX12_mean_87 : decode cX12_mean 87 = .ok (.iload_n 1, 1) := by decide +kernel
theorem dX12_mean_88 : decode cX12_mean 88 = .ok (.invokestatic 223, 3) := by decide +kernel
theorem dX12_mean_91 : decode cX12_mean 91 = .ok (.lreturn, 1) := by decide +kernel
theorem dX12_forged_0 : decode cX12_forged 0 = .ok (.aload_n 0, 1) := by decide +kernel
theorem dX12_forged_1 : decode cX12_forged 1 = .ok (.iload_n 1, 1) := by decide +kernel
theorem dX12_forged_2 : decode cX12_forged 2 = .ok (.iconst (-1), 1) := by decide +kernel
theorem dX12_forged_3 : decode cX12_forged 3 = .ok (.invokevirtual 134, 3) := by decide +kernel
theorem dX12_forged_6 : decode cX12_forged 6 = .ok (.istore_n 2, 1) := by decide +kernel
theorem dX12_forged_7 : decode cX12_forged 7 = .ok (.iload_n 2, 1) := by decide +kernel
theorem dX12_forged_8 : decode cX12_forged 8 = .ok (.ifCond .eq 5, 3) := by decide +kernel
theorem dX12_forged_11 : decode cX12_forged 11 = .ok (.iload_n 2, 1) := by decide +kernel
theorem dX12_forged_12 : decode cX12_forged 12 = .ok (.ireturn, 1) := by decide +kernel
theorem dX12_forged_13 : decode cX12_forged 13 = .ok (.iconst 0, 1) := by decide +kernel
theorem dX12_forged_14 : decode cX12_forged 14 = .ok (.istore_n 3, 1) := by decide +kernel
theorem dX12_forged_15 : decode cX12_forged 15 = .ok (.iload_n 3, 1) := by decide +kernel
theorem dX12_forged_16 : decode cX12_forged 16 = .ok (.aload_n 0, 1) := by decide +kernel
theorem dX12_forged_17 : decode cX12_forged 17 = .ok (.getfield 43, 3) := by decide +kernel
theorem dX12_forged_20 : decode cX12_forged 20 = .ok (.iload_n 1, 1) := by decide +kernel
theorem dX12_forged_21 : decode cX12_forged 21 = .ok (.iaload, 1) := by decide +kernel
theorem dX12_forged_22 : decode cX12_forged 22 = .ok (.if_icmp .ge 43, 3) := by decide +kernel
theorem dX12_forged_25 : decode cX12_forged 25 = .ok (.aload_n 0, 1) := by decide +kernel
theorem dX12_forged_26 : decode cX12_forged 26 = .ok (.iload_n 3, 1) := by decide +kernel
theorem dX12_forged_27 : decode cX12_forged 27 = .ok (.invokevirtual 113, 3) := by decide +kernel
theorem dX12_forged_30 : decode cX12_forged 30 = .ok (.ifCond .eq 27, 3) := by decide +kernel
theorem dX12_forged_33 : decode cX12_forged 33 = .ok (.aload_n 0, 1) := by decide +kernel
theorem dX12_forged_34 : decode cX12_forged 34 = .ok (.getfield 46, 3) := by decide +kernel
theorem dX12_forged_37 : decode cX12_forged 37 = .ok (.bipush 100, 2) := by decide +kernel
theorem dX12_forged_39 : decode cX12_forged 39 = .ok (.iload_n 1, 1) := by decide +kernel
theorem dX12_forged_40 : decode cX12_forged 40 = .ok (.imul, 1) := by decide +kernel
theorem dX12_forged_41 : decode cX12_forged 41 = .ok (.iload_n 3, 1) := by decide +kernel
theorem dX12_forged_42 : decode cX12_forged 42 = .ok (.iadd, 1) := by decide +kernel
theorem dX12_forged_43 : decode cX12_forged 43 = .ok (.iaload, 1) := by decide +kernel
theorem dX12_forged_44 : decode cX12_forged 44 = .ok (.aload_n 0, 1) := by decide +kernel
theorem dX12_forged_45 : decode cX12_forged 45 = .ok (.getfield 9, 3) := by decide +kernel
theorem dX12_forged_48 : decode cX12_forged 48 = .ok (.iload_n 3, 1) := by decide +kernel
theorem dX12_forged_49 : decode cX12_forged 49 = .ok (.iconst 3, 1) := by decide +kernel
theorem dX12_forged_50 : decode cX12_forged 50 = .ok (.invokestatic 53, 3) := by decide +kernel
theorem dX12_forged_53 : decode cX12_forged 53 = .ok (.iaload, 1) := by decide +kernel
theorem dX12_forged_54 : decode cX12_forged 54 = .ok (.if_icmp .eq 5, 3) := by decide +kernel
theorem dX12_forged_57 : decode cX12_forged 57 = .ok (.iload_n 3, 1) := by decide +kernel
theorem dX12_forged_58 : decode cX12_forged 58 = .ok (.ireturn, 1) := by decide +kernel
theorem dX12_forged_59 : decode cX12_forged 59 = .ok (.iinc 3 1, 3) := by decide +kernel
theorem dX12_forged_62 : decode cX12_forged 62 = .ok (.goto (-47), 3) := by decide +kernel
theorem dX12_forged_65 : decode cX12_forged 65 = .ok (.bipush (-4), 2) := by decide +kernel
theorem dX12_forged_67 : decode cX12_forged 67 = .ok (.ireturn, 1) := by decide +kernel
theorem dX12_judge_0 : decode cX12_judge 0 = .ok (.aload_n 0, 1) := by decide +kernel
theorem dX12_judge_1 : decode cX12_judge 1 = .ok (.iload_n 1, 1) := by decide +kernel
theorem dX12_judge_2 : decode cX12_judge 2 = .ok (.iconst (-1), 1) := by decide +kernel
theorem dX12_judge_3 : decode cX12_judge 3 = .ok (.invokevirtual 134, 3) := by decide +kernel
theorem dX12_judge_6 : decode cX12_judge 6 = .ok (.istore_n 2, 1) := by decide +kernel
theorem dX12_judge_7 : decode cX12_judge 7 = .ok (.iload_n 2, 1) := by decide +kernel
theorem dX12_judge_8 : decode cX12_judge 8 = .ok (.ifCond .eq 5, 3) := by decide +kernel
theorem dX12_judge_11 : decode cX12_judge 11 = .ok (.iload_n 2, 1) := by decide +kernel
theorem dX12_judge_12 : decode cX12_judge 12 = .ok (.ireturn, 1) := by decide +kernel
theorem dX12_judge_13 : decode cX12_judge 13 = .ok (.aload_n 0, 1) := by decide +kernel
theorem dX12_judge_14 : decode cX12_judge 14 = .ok (.getfield 9, 3) := by decide +kernel
theorem dX12_judge_17 : decode cX12_judge 17 = .ok (.aload_n 0, 1) := by decide +kernel
theorem dX12_judge_18 : decode cX12_judge 18 = .ok (.getfield 13, 3) := by decide +kernel
theorem dX12_judge_21 : decode cX12_judge 21 = .ok (.invokestatic 141, 3) := by decide +kernel
theorem dX12_judge_24 : decode cX12_judge 24 = .ok (.iconst 0, 1) := by decide +kernel
theorem dX12_judge_25 : decode cX12_judge 25 = .ok (.istore_n 3, 1) := by decide +kernel
theorem dX12_judge_26 : decode cX12_judge 26 = .ok (.iload_n 3, 1) := by decide +kernel
theorem dX12_judge_27 : decode cX12_judge 27 = .ok (.aload_n 0, 1) := by decide +kernel
theorem dX12_judge_28 : decode cX12_judge 28 = .ok (.getfield 43, 3) := by decide +kernel
theorem dX12_judge_31 : decode cX12_judge 31 = .ok (.iload_n 1, 1) := by decide +kernel
theorem dX12_judge_32 : decode cX12_judge 32 = .ok (.iaload, 1) := by decide +kernel
theorem dX12_judge_33 : decode cX12_judge 33 = .ok (.if_icmp .ge 35, 3) := by decide +kernel
theorem dX12_judge_36 : decode cX12_judge 36 = .ok (.aload_n 0, 1) := by decide +kernel
theorem dX12_judge_37 : decode cX12_judge 37 = .ok (.iload_n 1, 1) := by decide +kernel
theorem dX12_judge_38 : decode cX12_judge 38 = .ok (.iload_n 3, 1) := by decide +kernel
theorem dX12_judge_39 : decode cX12_judge 39 = .ok (.aload_n 0, 1) := by decide +kernel
theorem dX12_judge_40 : decode cX12_judge 40 = .ok (.getfield 13, 3) := by decide +kernel
theorem dX12_judge_43 : decode cX12_judge 43 = .ok (.invokestatic 166, 3) := by decide +kernel
theorem dX12_judge_46 : decode cX12_judge 46 = .ok (.invokevirtual 207, 3) := by decide +kernel
theorem dX12_judge_49 : decode cX12_judge 49 = .ok (.ifCond .ne 5, 3) := by decide +kernel
theorem dX12_judge_52 : decode cX12_judge 52 = .ok (.iload_n 3, 1) := by decide +kernel
theorem dX12_judge_53 : decode cX12_judge 53 = .ok (.ireturn, 1) := by decide +kernel
theorem dX12_judge_54 : decode cX12_judge 54 = .ok (.aload_n 0, 1) := by decide +kernel
theorem dX12_judge_55 : decode cX12_judge 55 = .ok (.getfield 13, 3) := by decide +kernel
theorem dX12_judge_58 : decode cX12_judge 58 = .ok (.iconst 0, 1) := by decide +kernel
theorem dX12_judge_59 : decode cX12_judge 59 = .ok (.invokestatic 82, 3) := by decide +kernel
theorem dX12_judge_62 : decode cX12_judge 62 = .ok (.iinc 3 1, 3) := by decide +kernel
theorem dX12_judge_65 : decode cX12_judge 65 = .ok (.goto (-39), 3) := by decide +kernel
theorem dX12_judge_68 : decode cX12_judge 68 = .ok (.bipush (-4), 2) := by decide +kernel
theorem dX12_judge_70 : decode cX12_judge 70 = .ok (.ireturn, 1) := by decide +kernel
theorem dX12_drawn_0 : decode cX12_drawn 0 = .ok (.aload_n 0, 1) := by decide +kernel
theorem dX12_drawn_1 : decode cX12_drawn 1 = .ok (.aload_n 0, 1) := by decide +kernel
theorem dX12_drawn_2 : decode cX12_drawn 2 = .ok (.getfield 227, 3) := by decide +kernel
theorem dX12_drawn_5 : decode cX12_drawn 5 = .ok (.ldc 230, 2) := by decide +kernel
theorem dX12_drawn_7 : decode cX12_drawn 7 = .ok (.imul, 1) := by decide +kernel
theorem dX12_drawn_8 : decode cX12_drawn 8 = .ok (.sipush 12345, 3) := by decide +kernel
theorem dX12_drawn_11 : decode cX12_drawn 11 = .ok (.iadd, 1) := by decide +kernel
theorem dX12_drawn_12 : decode cX12_drawn 12 = .ok (.putfield 227, 3) := by decide +kernel
theorem dX12_drawn_15 : decode cX12_drawn 15 = .ok (.aload_n 0, 1) := by decide +kernel
theorem dX12_drawn_16 : decode cX12_drawn 16 = .ok (.getfield 227, 3) := by decide +kernel
theorem dX12_drawn_19 : decode cX12_drawn 19 = .ok (.ldc 231, 2) := by decide +kernel
theorem dX12_drawn_21 : decode cX12_drawn 21 = .ok (.iand, 1) := by decide +kernel
theorem dX12_drawn_22 : decode cX12_drawn 22 = .ok (.ldc 232, 2) := by decide +kernel
theorem dX12_drawn_24 : decode cX12_drawn 24 = .ok (.idiv, 1) := by decide +kernel
theorem dX12_drawn_25 : decode cX12_drawn 25 = .ok (.iload_n 1, 1) := by decide +kernel
theorem dX12_drawn_26 : decode cX12_drawn 26 = .ok (.irem, 1) := by decide +kernel
theorem dX12_drawn_27 : decode cX12_drawn 27 = .ok (.ireturn, 1) := by decide +kernel
theorem dX12_seasons_0 : decode cX12_seasons 0 = .ok (.iload_n 1, 1) := by decide +kernel
theorem dX12_seasons_1 : decode cX12_seasons 1 = .ok (.iconst 1, 1) := by decide +kernel
theorem dX12_seasons_2 : decode cX12_seasons 2 = .ok (.bipush 20, 2) := by decide +kernel
theorem dX12_seasons_4 : decode cX12_seasons 4 = .ok (.invokestatic 49, 3) := by decide +kernel
theorem dX12_seasons_7 : decode cX12_seasons 7 = .ok (.ifCond .eq 12, 3) := by decide +kernel
theorem dX12_seasons_10 : decode cX12_seasons 10 = .ok (.iload_n 3, 1) := by decide +kernel
theorem dX12_seasons_11 : decode cX12_seasons 11 = .ok (.iconst 0, 1) := by decide +kernel
theorem dX12_seasons_12 : decode cX12_seasons 12 = .ok (.iconst 1, 1) := by decide +kernel
theorem dX12_seasons_13 : decode cX12_seasons 13 = .ok (.invokestatic 49, 3) := by decide +kernel
theorem dX12_seasons_16 : decode cX12_seasons 16 = .ok (.ifCond .ne 5, 3) := by decide +kernel
theorem dX12_seasons_19 : decode cX12_seasons 19 = .ok (.iconst (-1), 1) := by decide +kernel
theorem dX12_seasons_20 : decode cX12_seasons 20 = .ok (.ireturn, 1) := by decide +kernel
theorem dX12_seasons_21 : decode cX12_seasons 21 = .ok (.aload_n 0, 1) := by decide +kernel
theorem dX12_seasons_22 : decode cX12_seasons 22 = .ok (.iload_n 2, 1) := by decide +kernel
theorem dX12_seasons_23 : decode cX12_seasons 23 = .ok (.putfield 227, 3) := by decide +kernel
theorem dX12_seasons_26 : decode cX12_seasons 26 = .ok (.iconst 0, 1) := by decide +kernel
theorem dX12_seasons_27 : decode cX12_seasons 27 = .ok (.istore 4, 2) := by decide +kernel
theorem dX12_seasons_29 : decode cX12_seasons 29 = .ok (.iconst 0, 1) := by decide +kernel
theorem dX12_seasons_30 : decode cX12_seasons 30 = .ok (.istore 5, 2) := by decide +kernel
theorem dX12_seasons_32 : decode cX12_seasons 32 = .ok (.iload 5, 2) := by decide +kernel
theorem dX12_seasons_34 : decode cX12_seasons 34 = .ok (.iload_n 1, 1) := by decide +kernel
theorem dX12_seasons_35 : decode cX12_seasons 35 = .ok (.if_icmp .ge 113, 3) := by decide +kernel
theorem dX12_seasons_38 : decode cX12_seasons 38 = .ok (.aload_n 0, 1) := by decide +kernel
theorem dX12_seasons_39 : decode cX12_seasons 39 = .ok (.getfield 9, 3) := by decide +kernel
theorem dX12_seasons_42 : decode cX12_seasons 42 = .ok (.aload_n 0, 1) := by decide +kernel
theorem dX12_seasons_43 : decode cX12_seasons 43 = .ok (.getfield 13, 3) := by decide +kernel
theorem dX12_seasons_46 : decode cX12_seasons 46 = .ok (.invokestatic 141, 3) := by decide +kernel
theorem dX12_seasons_49 : decode cX12_seasons 49 = .ok (.iconst 0, 1) := by decide +kernel
theorem dX12_seasons_50 : decode cX12_seasons 50 = .ok (.istore 6, 2) := by decide +kernel
theorem dX12_seasons_52 : decode cX12_seasons 52 = .ok (.iload 6, 2) := by decide +kernel
theorem dX12_seasons_54 : decode cX12_seasons 54 = .ok (.aload_n 0, 1) := by decide +kernel
theorem dX12_seasons_55 : decode cX12_seasons 55 = .ok (.getfield 9, 3) := by decide +kernel
theorem dX12_seasons_58 : decode cX12_seasons 58 = .ok (.iconst 0, 1) := by decide +kernel
theorem dX12_seasons_59 : decode cX12_seasons 59 = .ok (.iaload, 1) := by decide +kernel
theorem dX12_seasons_60 : decode cX12_seasons 60 = .ok (.if_icmp .ge 38, 3) := by decide +kernel
theorem dX12_seasons_63 : decode cX12_seasons 63 = .ok (.aload_n 0, 1) := by decide +kernel
theorem dX12_seasons_64 : decode cX12_seasons 64 = .ok (.getfield 9, 3) := by decide +kernel
theorem dX12_seasons_67 : decode cX12_seasons 67 = .ok (.iload 6, 2) := by decide +kernel
theorem dX12_seasons_69 : decode cX12_seasons 69 = .ok (.invokestatic 61, 3) := by decide +kernel
theorem dX12_seasons_72 : decode cX12_seasons 72 = .ok (.ifCond .eq 20, 3) := by decide +kernel
theorem dX12_seasons_75 : decode cX12_seasons 75 = .ok (.aload_n 0, 1) := by decide +kernel
theorem dX12_seasons_76 : decode cX12_seasons 76 = .ok (.getfield 13, 3) := by decide +kernel
theorem dX12_seasons_79 : decode cX12_seasons 79 = .ok (.iload 6, 2) := by decide +kernel
theorem dX12_seasons_81 : decode cX12_seasons 81 = .ok (.iconst 2, 1) := by decide +kernel
theorem dX12_seasons_82 : decode cX12_seasons 82 = .ok (.invokestatic 53, 3) := by decide +kernel
theorem dX12_seasons_85 : decode cX12_seasons 85 = .ok (.aload_n 0, 1) := by decide +kernel
theorem dX12_seasons_86 : decode cX12_seasons 86 = .ok (.bipush 100, 2) := by decide +kernel
theorem dX12_seasons_88 : decode cX12_seasons 88 = .ok (.invokevirtual 233, 3) := by decide +kernel
theorem dX12_seasons_91 : decode cX12_seasons 91 = .ok (.iastore, 1) := by decide +kernel
theorem dX12_seasons_92 : decode cX12_seasons 92 = .ok (.iinc 6 1, 3) := by decide +kernel
theorem dX12_seasons_95 : decode cX12_seasons 95 = .ok (.goto (-43), 3) := by decide +kernel
theorem dX12_seasons_98 : decode cX12_seasons 98 = .ok (.aload_n 0, 1) := by decide +kernel
theorem dX12_seasons_99 : decode cX12_seasons 99 = .ok (.getfield 13, 3) := by decide +kernel
theorem dX12_seasons_102 : decode cX12_seasons 102 = .ok (.bipush 9, 2) := by decide +kernel
theorem dX12_seasons_104 : decode cX12_seasons 104 = .ok (.invokestatic 131, 3) := by decide +kernel
theorem dX12_seasons_107 : decode cX12_seasons 107 = .ok (.iload 4, 2) := by decide +kernel
theorem dX12_seasons_109 : decode cX12_seasons 109 = .ok (.iload_n 3, 1) := by decide +kernel
theorem dX12_seasons_110 : decode cX12_seasons 110 = .ok (.ifCond .ne 19, 3) := by decide +kernel
theorem dX12_seasons_113 : decode cX12_seasons 113 = .ok (.aload_n 0, 1) := by decide +kernel
theorem dX12_seasons_114 : decode cX12_seasons 114 = .ok (.getfield 13, 3) := by decide +kernel
theorem dX12_seasons_117 : decode cX12_seasons 117 = .ok (.iconst 2, 1) := by decide +kernel
theorem dX12_seasons_118 : decode cX12_seasons 118 = .ok (.iaload, 1) := by decide +kernel
theorem dX12_seasons_119 : decode cX12_seasons 119 = .ok (.aload_n 0, 1) := by decide +kernel
theorem dX12_seasons_120 : decode cX12_seasons 120 = .ok (.getfield 9, 3) := by decide +kernel
theorem dX12_seasons_123 : decode cX12_seasons 123 = .ok (.iconst 2, 1) := by decide +kernel
theorem dX12_seasons_124 : decode cX12_seasons 124 = .ok (.iaload, 1) := by decide +kernel
theorem dX12_seasons_125 : decode cX12_seasons 125 = .ok (.isub, 1) := by decide +kernel
theorem dX12_seasons_126 : decode cX12_seasons 126 = .ok (.goto 13, 3) := by decide +kernel
theorem dX12_seasons_129 : decode cX12_seasons 129 = .ok (.aload_n 0, 1) := by decide +kernel
theorem dX12_seasons_130 : decode cX12_seasons 130 = .ok (.getfield 13, 3) := by decide +kernel
theorem dX12_seasons_133 : decode cX12_seasons 133 = .ok (.invokestatic 162, 3) := by decide +kernel
theorem dX12_seasons_136 : decode cX12_seasons 136 = .ok (.invokestatic 236, 3) := by decide +kernel
theorem dX12_seasons_139 : decode cX12_seasons 139 = .ok (.iadd, 1) := by decide +kernel
theorem dX12_seasons_140 : decode cX12_seasons 140 = .ok (.istore 4, 2) := by decide +kernel
theorem dX12_seasons_142 : decode cX12_seasons 142 = .ok (.iinc 5 1, 3) := by decide +kernel
theorem dX12_seasons_145 : decode cX12_seasons 145 = .ok (.goto (-113), 3) := by decide +kernel
theorem dX12_seasons_148 : decode cX12_seasons 148 = .ok (.iload 4, 2) := by decide +kernel
theorem dX12_seasons_150 : decode cX12_seasons 150 = .ok (.ireturn, 1) := by decide +kernel
theorem dX12_image_0 : decode cX12_image 0 = .ok (.aload_n 0, 1) := by decide +kernel
theorem dX12_image_1 : decode cX12_image 1 = .ok (.getfield 9, 3) := by decide +kernel
theorem dX12_image_4 : decode cX12_image 4 = .ok (.aload_n 0, 1) := by decide +kernel
theorem dX12_image_5 : decode cX12_image 5 = .ok (.getfield 16, 3) := by decide +kernel
theorem dX12_image_8 : decode cX12_image 8 = .ok (.invokestatic 141, 3) := by decide +kernel
theorem dX12_image_11 : decode cX12_image 11 = .ok (.aload_n 0, 1) := by decide +kernel
theorem dX12_image_12 : decode cX12_image 12 = .ok (.iconst 1, 1) := by decide +kernel
theorem dX12_image_13 : decode cX12_image 13 = .ok (.putfield 239, 3) := by decide +kernel
theorem dX12_image_16 : decode cX12_image 16 = .ok (.aload_n 0, 1) := by decide +kernel
theorem dX12_image_17 : decode cX12_image 17 = .ok (.getfield 9, 3) := by decide +kernel
theorem dX12_image_20 : decode cX12_image 20 = .ok (.iconst 1, 1) := by decide +kernel
theorem dX12_image_21 : decode cX12_image 21 = .ok (.iaload, 1) := by decide +kernel
theorem dX12_image_22 : decode cX12_image 22 = .ok (.ireturn, 1) := by decide +kernel
theorem dX12_restore_0 : decode cX12_restore 0 = .ok (.aload_n 0, 1) := by decide +kernel
theorem dX12_restore_1 : decode cX12_restore 1 = .ok (.getfield 239, 3) := by decide +kernel
theorem dX12_restore_4 : decode cX12_restore 4 = .ok (.ifCond .ne 6, 3) := by decide +kernel
theorem dX12_restore_7 : decode cX12_restore 7 = .ok (.bipush (-3), 2) := by decide +kernel
theorem dX12_restore_9 : decode cX12_restore 9 = .ok (.ireturn, 1) := by decide +kernel
theorem dX12_restore_10 : decode cX12_restore 10 = .ok (.aload_n 0, 1) := by decide +kernel
theorem dX12_restore_11 : decode cX12_restore 11 = .ok (.getfield 16, 3) := by decide +kernel
theorem dX12_restore_14 : decode cX12_restore 14 = .ok (.aload_n 0, 1) := by decide +kernel
theorem dX12_restore_15 : decode cX12_restore 15 = .ok (.getfield 9, 3) := by decide +kernel
theorem dX12_restore_18 : decode cX12_restore 18 = .ok (.invokestatic 141, 3) := by decide +kernel
theorem dX12_restore_21 : decode cX12_restore 21 = .ok (.aload_n 0, 1) := by decide +kernel
theorem dX12_restore_22 : decode cX12_restore 22 = .ok (.getfield 9, 3) := by decide +kernel
theorem dX12_restore_25 : decode cX12_restore 25 = .ok (.iconst 1, 1) := by decide +kernel
theorem dX12_restore_26 : decode cX12_restore 26 = .ok (.iaload, 1) := by decide +kernel
theorem dX12_restore_27 : decode cX12_restore 27 = .ok (.ireturn, 1) := by decide +kernel
theorem dX12_count_0 : decode cX12_count 0 = .ok (.iload_n 1, 1) := by decide +kernel
theorem dX12_count_1 : decode cX12_count 1 = .ok (.iconst 0, 1) := by decide +kernel
theorem dX12_count_2 : decode cX12_count 2 = .ok (.iconst 4, 1) := by decide +kernel
theorem dX12_count_3 : decode cX12_count 3 = .ok (.invokestatic 49, 3) := by decide +kernel
theorem dX12_count_6 : decode cX12_count 6 = .ok (.ifCond .eq 10, 3) := by decide +kernel
theorem dX12_count_9 : decode cX12_count 9 = .ok (.aload_n 0, 1) := by decide +kernel
theorem dX12_count_10 : decode cX12_count 10 = .ok (.getfield 9, 3) := by decide +kernel
theorem dX12_count_13 : decode cX12_count 13 = .ok (.iload_n 1, 1) := by decide +kernel
theorem dX12_count_14 : decode cX12_count 14 = .ok (.iaload, 1) := by decide +kernel
theorem dX12_count_15 : decode cX12_count 15 = .ok (.ireturn, 1) := by decide +kernel
theorem dX12_count_16 : decode cX12_count 16 = .ok (.iload_n 1, 1) := by decide +kernel
theorem dX12_count_17 : decode cX12_count 17 = .ok (.iconst 5, 1) := by decide +kernel
theorem dX12_count_18 : decode cX12_count 18 = .ok (.if_icmp .ne 13, 3) := by decide +kernel
theorem dX12_count_21 : decode cX12_count 21 = .ok (.aload_n 0, 1) := by decide +kernel
theorem dX12_count_22 : decode cX12_count 22 = .ok (.getfield 9, 3) := by decide +kernel
theorem dX12_count_25 : decode cX12_count 25 = .ok (.invokestatic 162, 3) := by decide +kernel
theorem dX12_count_28 : decode cX12_count 28 = .ok (.goto 20, 3) := by decide +kernel
theorem dX12_count_31 : decode cX12_count 31 = .ok (.iload_n 1, 1) := by decide +kernel
theorem dX12_count_32 : decode cX12_count 32 = .ok (.bipush 6, 2) := by decide +kernel
theorem dX12_count_34 : decode cX12_count 34 = .ok (.if_icmp .ne 13, 3) := by decide +kernel
theorem dX12_count_37 : decode cX12_count 37 = .ok (.aload_n 0, 1) := by decide +kernel
theorem dX12_count_38 : decode cX12_count 38 = .ok (.getfield 9, 3) := by decide +kernel
theorem dX12_count_41 : decode cX12_count 41 = .ok (.invokestatic 166, 3) := by decide +kernel
theorem dX12_count_44 : decode cX12_count 44 = .ok (.goto 4, 3) := by decide +kernel
theorem dX12_count_47 : decode cX12_count 47 = .ok (.iconst (-1), 1) := by decide +kernel
theorem dX12_count_48 : decode cX12_count 48 = .ok (.ireturn, 1) := by decide +kernel
theorem dX12_thrown_0 : decode cX12_thrown 0 = .ok (.aload_n 0, 1) := by decide +kernel
theorem dX12_thrown_1 : decode cX12_thrown 1 = .ok (.getfield 243, 3) := by decide +kernel
theorem dX12_thrown_4 : decode cX12_thrown 4 = .ok (.ireturn, 1) := by decide +kernel
theorem dX12_isShelf_0 : decode cX12_isShelf 0 = .ok (.iload_n 0, 1) := by decide +kernel
theorem dX12_isShelf_1 : decode cX12_isShelf 1 = .ok (.iconst 0, 1) := by decide +kernel
theorem dX12_isShelf_2 : decode cX12_isShelf 2 = .ok (.bipush 7, 2) := by decide +kernel
theorem dX12_isShelf_4 : decode cX12_isShelf 4 = .ok (.invokestatic 49, 3) := by decide +kernel
theorem dX12_isShelf_7 : decode cX12_isShelf 7 = .ok (.ireturn, 1) := by decide +kernel
theorem dX12_wrongRow_0 : decode cX12_wrongRow 0 = .ok (.iload_n 1, 1) := by decide +kernel
theorem dX12_wrongRow_1 : decode cX12_wrongRow 1 = .ok (.invokestatic 246, 3) := by decide +kernel
theorem dX12_wrongRow_4 : decode cX12_wrongRow 4 = .ok (.ifCond .ne 7, 3) := by decide +kernel
theorem dX12_wrongRow_7 : decode cX12_wrongRow 7 = .ok (.iconst (-1), 1) := by decide +kernel
theorem dX12_wrongRow_8 : decode cX12_wrongRow 8 = .ok (.goto 47, 3) := by decide +kernel
theorem dX12_wrongRow_11 : decode cX12_wrongRow 11 = .ok (.aload_n 0, 1) := by decide +kernel
theorem dX12_wrongRow_12 : decode cX12_wrongRow 12 = .ok (.getfield 31, 3) := by decide +kernel
theorem dX12_wrongRow_15 : decode cX12_wrongRow 15 = .ok (.iload_n 1, 1) := by decide +kernel
theorem dX12_wrongRow_16 : decode cX12_wrongRow 16 = .ok (.iaload, 1) := by decide +kernel
theorem dX12_wrongRow_17 : decode cX12_wrongRow 17 = .ok (.ifCond .ne 8, 3) := by decide +kernel
theorem dX12_wrongRow_20 : decode cX12_wrongRow 20 = .ok (.bipush (-11), 2) := by decide +kernel
theorem dX12_wrongRow_22 : decode cX12_wrongRow 22 = .ok (.goto 33, 3) := by decide +kernel
theorem dX12_wrongRow_25 : decode cX12_wrongRow 25 = .ok (.aload_n 0, 1) := by decide +kernel
theorem dX12_wrongRow_26 : decode cX12_wrongRow 26 = .ok (.getfield 31, 3) := by decide +kernel
theorem dX12_wrongRow_29 : decode cX12_wrongRow 29 = .ok (.iload_n 1, 1) := by decide +kernel
theorem dX12_wrongRow_30 : decode cX12_wrongRow 30 = .ok (.iaload, 1) := by decide +kernel
theorem dX12_wrongRow_31 : decode cX12_wrongRow 31 = .ok (.iconst 2, 1) := by decide +kernel
theorem dX12_wrongRow_32 : decode cX12_wrongRow 32 = .ok (.if_icmp .ne 17, 3) := by decide +kernel
theorem dX12_wrongRow_35 : decode cX12_wrongRow 35 = .ok (.iload_n 2, 1) := by decide +kernel
theorem dX12_wrongRow_36 : decode cX12_wrongRow 36 = .ok (.ifCond .lt 18, 3) := by decide +kernel
theorem dX12_wrongRow_39 : decode cX12_wrongRow 39 = .ok (.aload_n 0, 1) := by decide +kernel
theorem dX12_wrongRow_40 : decode cX12_wrongRow 40 = .ok (.getfield 40, 3) := by decide +kernel
theorem dX12_wrongRow_43 : decode cX12_wrongRow 43 = .ok (.iload_n 1, 1) := by decide +kernel
theorem dX12_wrongRow_44 : decode cX12_wrongRow 44 = .ok (.iaload, 1) := by decide +kernel
theorem dX12_wrongRow_45 : decode cX12_wrongRow 45 = .ok (.iload_n 2, 1) := by decide +kernel
theorem dX12_wrongRow_46 : decode cX12_wrongRow 46 = .ok (.if_icmp .eq 8, 3) := by decide +kernel
theorem dX12_wrongRow_49 : decode cX12_wrongRow 49 = .ok (.bipush (-12), 2) := by decide +kernel
theorem dX12_wrongRow_51 : decode cX12_wrongRow 51 = .ok (.goto 4, 3) := by decide +kernel
theorem dX12_wrongRow_54 : decode cX12_wrongRow 54 = .ok (.iconst 0, 1) := by decide +kernel
theorem dX12_wrongRow_55 : decode cX12_wrongRow 55 = .ok (.ireturn, 1) := by decide +kernel
theorem dX12_wrongKept_0 : decode cX12_wrongKept 0 = .ok (.iload_n 1, 1) := by decide +kernel
theorem dX12_wrongKept_1 : decode cX12_wrongKept 1 = .ok (.invokestatic 246, 3) := by decide +kernel
theorem dX12_wrongKept_4 : decode cX12_wrongKept 4 = .ok (.ifCond .ne 7, 3) := by decide +kernel
theorem dX12_wrongKept_7 : decode cX12_wrongKept 7 = .ok (.iconst (-1), 1) := by decide +kernel
theorem dX12_wrongKept_8 : decode cX12_wrongKept 8 = .ok (.goto 33, 3) := by decide +kernel
theorem dX12_wrongKept_11 : decode cX12_wrongKept 11 = .ok (.aload_n 0, 1) := by decide +kernel
theorem dX12_wrongKept_12 : decode cX12_wrongKept 12 = .ok (.getfield 31, 3) := by decide +kernel
theorem dX12_wrongKept_15 : decode cX12_wrongKept 15 = .ok (.iload_n 1, 1) := by decide +kernel
theorem dX12_wrongKept_16 : decode cX12_wrongKept 16 = .ok (.iaload, 1) := by decide +kernel
theorem dX12_wrongKept_17 : decode cX12_wrongKept 17 = .ok (.ifCond .ne 8, 3) := by decide +kernel
theorem dX12_wrongKept_20 : decode cX12_wrongKept 20 = .ok (.bipush (-11), 2) := by decide +kernel
theorem dX12_wrongKept_22 : decode cX12_wrongKept 22 = .ok (.goto 19, 3) := by decide +kernel
theorem dX12_wrongKept_25 : decode cX12_wrongKept 25 = .ok (.aload_n 0, 1) := by decide +kernel
theorem dX12_wrongKept_26 : decode cX12_wrongKept 26 = .ok (.getfield 31, 3) := by decide +kernel
theorem dX12_wrongKept_29 : decode cX12_wrongKept 29 = .ok (.iload_n 1, 1) := by decide +kernel
theorem dX12_wrongKept_30 : decode cX12_wrongKept 30 = .ok (.iaload, 1) := by decide +kernel
theorem dX12_wrongKept_31 : decode cX12_wrongKept 31 = .ok (.iconst 2, 1) := by decide +kernel
theorem dX12_wrongKept_32 : decode cX12_wrongKept 32 = .ok (.if_icmp .ne 8, 3) := by decide +kernel
theorem dX12_wrongKept_35 : decode cX12_wrongKept 35 = .ok (.bipush (-12), 2) := by decide +kernel
theorem dX12_wrongKept_37 : decode cX12_wrongKept 37 = .ok (.goto 4, 3) := by decide +kernel
theorem dX12_wrongKept_40 : decode cX12_wrongKept 40 = .ok (.iconst 0, 1) := by decide +kernel
theorem dX12_wrongKept_41 : decode cX12_wrongKept 41 = .ok (.ireturn, 1) := by decide +kernel
theorem dX12_keep_0 : decode cX12_keep 0 = .ok (.iload_n 1, 1) := by decide +kernel
theorem dX12_keep_1 : decode cX12_keep 1 = .ok (.invokestatic 246, 3) := by decide +kernel
theorem dX12_keep_4 : decode cX12_keep 4 = .ok (.ifCond .eq 38, 3) := by decide +kernel
theorem dX12_keep_7 : decode cX12_keep 7 = .ok (.iload_n 2, 1) := by decide +kernel
theorem dX12_keep_8 : decode cX12_keep 8 = .ok (.iconst 0, 1) := by decide +kernel
theorem dX12_keep_9 : decode cX12_keep 9 = .ok (.iconst 1, 1) := by decide +kernel
theorem dX12_keep_10 : decode cX12_keep 10 = .ok (.invokestatic 49, 3) := by decide +kernel
theorem dX12_keep_13 : decode cX12_keep 13 = .ok (.ifCond .eq 29, 3) := by decide +kernel
theorem dX12_keep_16 : decode cX12_keep 16 = .ok (.iload_n 2, 1) := by decide +kernel
theorem dX12_keep_17 : decode cX12_keep 17 = .ok (.iconst 1, 1) := by decide +kernel
theorem dX12_keep_18 : decode cX12_keep 18 = .ok (.if_icmp .ne 26, 3) := by decide +kernel
theorem dX12_keep_21 : decode cX12_keep 21 = .ok (.iload_n 3, 1) := by decide +kernel
theorem dX12_keep_22 : decode cX12_keep 22 = .ok (.iconst 0, 1) := by decide +kernel
theorem dX12_keep_23 : decode cX12_keep 23 = .ok (.bipush 7, 2) := by decide +kernel
theorem dX12_keep_25 : decode cX12_keep 25 = .ok (.invokestatic 49, 3) := by decide +kernel
theorem dX12_keep_28 : decode cX12_keep 28 = .ok (.ifCond .eq 14, 3) := by decide +kernel
theorem dX12_keep_31 : decode cX12_keep 31 = .ok (.iload 4, 2) := by decide +kernel
theorem dX12_keep_33 : decode cX12_keep 33 = .ok (.iconst 0, 1) := by decide +kernel
theorem dX12_keep_34 : decode cX12_keep 34 = .ok (.bipush 9, 2) := by decide +kernel
theorem dX12_keep_36 : decode cX12_keep 36 = .ok (.invokestatic 49, 3) := by decide +kernel
theorem dX12_keep_39 : decode cX12_keep 39 = .ok (.ifCond .ne 5, 3) := by decide +kernel
theorem dX12_keep_42 : decode cX12_keep 42 = .ok (.iconst (-1), 1) := by decide +kernel
theorem dX12_keep_43 : decode cX12_keep 43 = .ok (.ireturn, 1) := by decide +kernel
theorem dX12_keep_44 : decode cX12_keep 44 = .ok (.aload_n 0, 1) := by decide +kernel
theorem dX12_keep_45 : decode cX12_keep 45 = .ok (.getfield 31, 3) := by decide +kernel
theorem dX12_keep_48 : decode cX12_keep 48 = .ok (.iload_n 1, 1) := by decide +kernel
theorem dX12_keep_49 : decode cX12_keep 49 = .ok (.iload_n 2, 1) := by decide +kernel
theorem dX12_keep_50 : decode cX12_keep 50 = .ok (.iastore, 1) := by decide +kernel
theorem dX12_keep_51 : decode cX12_keep 51 = .ok (.aload_n 0, 1) := by decide +kernel
theorem dX12_keep_52 : decode cX12_keep 52 = .ok (.getfield 34, 3) := by decide +kernel
theorem dX12_keep_55 : decode cX12_keep 55 = .ok (.iload_n 1, 1) := by decide +kernel
theorem dX12_keep_56 : decode cX12_keep 56 = .ok (.iload_n 3, 1) := by decide +kernel
theorem dX12_keep_57 : decode cX12_keep 57 = .ok (.iastore, 1) := by decide +kernel
theorem dX12_keep_58 : decode cX12_keep 58 = .ok (.aload_n 0, 1) := by decide +kernel
theorem dX12_keep_59 : decode cX12_keep 59 = .ok (.getfield 37, 3) := by decide +kernel
theorem dX12_keep_62 : decode cX12_keep 62 = .ok (.iload_n 1, 1) := by decide +kernel
theorem dX12_keep_63 : decode cX12_keep 63 = .ok (.iload 4, 2) := by decide +kernel
theorem dX12_keep_65 : decode cX12_keep 65 = .ok (.iastore, 1) := by decide +kernel
theorem dX12_keep_66 : decode cX12_keep 66 = .ok (.iconst 0, 1) := by decide +kernel
theorem dX12_keep_67 : decode cX12_keep 67 = .ok (.ireturn, 1) := by decide +kernel
theorem dX12_row_0 : decode cX12_row 0 = .ok (.iload_n 1, 1) := by decide +kernel
theorem dX12_row_1 : decode cX12_row 1 = .ok (.invokestatic 246, 3) := by decide +kernel
theorem dX12_row_4 : decode cX12_row 4 = .ok (.ifCond .eq 18, 3) := by decide +kernel
theorem dX12_row_7 : decode cX12_row 7 = .ok (.iload_n 2, 1) := by decide +kernel
theorem dX12_row_8 : decode cX12_row 8 = .ok (.iconst 0, 1) := by decide +kernel
theorem dX12_row_9 : decode cX12_row 9 = .ok (.iconst 2, 1) := by decide +kernel
theorem dX12_row_10 : decode cX12_row 10 = .ok (.invokestatic 49, 3) := by decide +kernel
theorem dX12_row_13 : decode cX12_row 13 = .ok (.ifCond .eq 9, 3) := by decide +kernel
theorem dX12_row_16 : decode cX12_row 16 = .ok (.iload_n 3, 1) := by decide +kernel
theorem dX12_row_17 : decode cX12_row 17 = .ok (.bipush 100, 2) := by decide +kernel
theorem dX12_row_19 : decode cX12_row 19 = .ok (.if_icmp .le 5, 3) := by decide +kernel
theorem dX12_row_22 : decode cX12_row 22 = .ok (.iconst (-1), 1) := by decide +kernel
theorem dX12_row_23 : decode cX12_row 23 = .ok (.ireturn, 1) := by decide +kernel
theorem dX12_row_24 : decode cX12_row 24 = .ok (.iload_n 3, 1) := by decide +kernel
theorem dX12_row_25 : decode cX12_row 25 = .ok (.ifCond .ge 6, 3) := by decide +kernel
theorem dX12_row_28 : decode cX12_row 28 = .ok (.bipush (-14), 2) := by decide +kernel
theorem dX12_row_30 : decode cX12_row 30 = .ok (.ireturn, 1) := by decide +kernel
theorem dX12_row_31 : decode cX12_row 31 = .ok (.aload_n 0, 1) := by decide +kernel
theorem dX12_row_32 : decode cX12_row 32 = .ok (.getfield 31, 3) := by decide +kernel
theorem dX12_row_35 : decode cX12_row 35 = .ok (.iload_n 1, 1) := by decide +kernel
theorem dX12_row_36 : decode cX12_row 36 = .ok (.iconst 2, 1) := by decide +kernel
theorem dX12_row_37 : decode cX12_row 37 = .ok (.iastore, 1) := by decide +kernel
theorem dX12_row_38 : decode cX12_row 38 = .ok (.aload_n 0, 1) := by decide +kernel
theorem dX12_row_39 : decode cX12_row 39 = .ok (.getfield 40, 3) := by decide +kernel
theorem dX12_row_42 : decode cX12_row 42 = .ok (.iload_n 1, 1) := by decide +kernel
theorem dX12_row_43 : decode cX12_row 43 = .ok (.iload_n 2, 1) := by decide +kernel
theorem dX12_row_44 : decode cX12_row 44 = .ok (.iastore, 1) := by decide +kernel
theorem dX12_row_45 : decode cX12_row 45 = .ok (.aload_n 0, 1) := by decide +kernel
theorem dX12_row_46 : decode cX12_row 46 = .ok (.getfield 43, 3) := by decide +kernel
theorem dX12_row_49 : decode cX12_row 49 = .ok (.iload_n 1, 1) := by decide +kernel
theorem dX12_row_50 : decode cX12_row 50 = .ok (.iload_n 3, 1) := by decide +kernel
theorem dX12_row_51 : decode cX12_row 51 = .ok (.iastore, 1) := by decide +kernel
theorem dX12_row_52 : decode cX12_row 52 = .ok (.iconst 0, 1) := by decide +kernel
theorem dX12_row_53 : decode cX12_row 53 = .ok (.istore 4, 2) := by decide +kernel
theorem dX12_row_55 : decode cX12_row 55 = .ok (.iload 4, 2) := by decide +kernel
theorem dX12_row_57 : decode cX12_row 57 = .ok (.bipush 100, 2) := by decide +kernel
theorem dX12_row_59 : decode cX12_row 59 = .ok (.if_icmp .ge 22, 3) := by decide +kernel
theorem dX12_row_62 : decode cX12_row 62 = .ok (.aload_n 0, 1) := by decide +kernel
theorem dX12_row_63 : decode cX12_row 63 = .ok (.getfield 46, 3) := by decide +kernel
theorem dX12_row_66 : decode cX12_row 66 = .ok (.bipush 100, 2) := by decide +kernel
theorem dX12_row_68 : decode cX12_row 68 = .ok (.iload_n 1, 1) := by decide +kernel
theorem dX12_row_69 : decode cX12_row 69 = .ok (.imul, 1) := by decide +kernel
theorem dX12_row_70 : decode cX12_row 70 = .ok (.iload 4, 2) := by decide +kernel
theorem dX12_row_72 : decode cX12_row 72 = .ok (.iadd, 1) := by decide +kernel
theorem dX12_row_73 : decode cX12_row 73 = .ok (.iconst 0, 1) := by decide +kernel
theorem dX12_row_74 : decode cX12_row 74 = .ok (.iastore, 1) := by decide +kernel
theorem dX12_row_75 : decode cX12_row 75 = .ok (.iinc 4 1, 3) := by decide +kernel
theorem dX12_row_78 : decode cX12_row 78 = .ok (.goto (-23), 3) := by decide +kernel
theorem dX12_row_81 : decode cX12_row 81 = .ok (.iconst 0, 1) := by decide +kernel
theorem dX12_row_82 : decode cX12_row 82 = .ok (.ireturn, 1) := by decide +kernel
theorem dX12_put_0 : decode cX12_put 0 = .ok (.aload_n 0, 1) := by decide +kernel
theorem dX12_put_1 : decode cX12_put 1 = .ok (.iload_n 1, 1) := by decide +kernel
theorem dX12_put_2 : decode cX12_put 2 = .ok (.iconst (-1), 1) := by decide +kernel
theorem dX12_put_3 : decode cX12_put 3 = .ok (.invokevirtual 134, 3) := by decide +kernel
theorem dX12_put_6 : decode cX12_put 6 = .ok (.istore 4, 2) := by decide +kernel
theorem dX12_put_8 : decode cX12_put 8 = .ok (.iload 4, 2) := by decide +kernel
theorem dX12_put_10 : decode cX12_put 10 = .ok (.ifCond .eq 6, 3) := by decide +kernel
theorem dX12_put_13 : decode cX12_put 13 = .ok (.iload 4, 2) := by decide +kernel
theorem dX12_put_15 : decode cX12_put 15 = .ok (.ireturn, 1) := by decide +kernel
theorem dX12_put_16 : decode cX12_put 16 = .ok (.iload_n 2, 1) := by decide +kernel
theorem dX12_put_17 : decode cX12_put 17 = .ok (.iconst 0, 1) := by decide +kernel
theorem dX12_put_18 : decode cX12_put 18 = .ok (.aload_n 0, 1) := by decide +kernel
theorem dX12_put_19 : decode cX12_put 19 = .ok (.getfield 43, 3) := by decide +kernel
theorem dX12_put_22 : decode cX12_put 22 = .ok (.iload_n 1, 1) := by decide +kernel
theorem dX12_put_23 : decode cX12_put 23 = .ok (.iaload, 1) := by decide +kernel
theorem dX12_put_24 : decode cX12_put 24 = .ok (.iconst 1, 1) := by decide +kernel
theorem dX12_put_25 : decode cX12_put 25 = .ok (.isub, 1) := by decide +kernel
theorem dX12_put_26 : decode cX12_put 26 = .ok (.invokestatic 49, 3) := by decide +kernel
theorem dX12_put_29 : decode cX12_put 29 = .ok (.ifCond .ne 6, 3) := by decide +kernel
theorem dX12_put_32 : decode cX12_put 32 = .ok (.bipush (-13), 2) := by decide +kernel
theorem dX12_put_34 : decode cX12_put 34 = .ok (.ireturn, 1) := by decide +kernel
theorem dX12_put_35 : decode cX12_put 35 = .ok (.aload_n 0, 1) := by decide +kernel
theorem dX12_put_36 : decode cX12_put 36 = .ok (.getfield 46, 3) := by decide +kernel
theorem dX12_put_39 : decode cX12_put 39 = .ok (.bipush 100, 2) := by decide +kernel
theorem dX12_put_41 : decode cX12_put 41 = .ok (.iload_n 1, 1) := by decide +kernel
theorem dX12_put_42 : decode cX12_put 42 = .ok (.imul, 1) := by decide +kernel
theorem dX12_put_43 : decode cX12_put 43 = .ok (.iload_n 2, 1) := by decide +kernel
theorem dX12_put_44 : decode cX12_put 44 = .ok (.iadd, 1) := by decide +kernel
theorem dX12_put_45 : decode cX12_put 45 = .ok (.aload_n 0, 1) := by decide +kernel
theorem dX12_put_46 : decode cX12_put 46 = .ok (.getfield 40, 3) := by decide +kernel
theorem dX12_put_49 : decode cX12_put 49 = .ok (.iload_n 1, 1) := by decide +kernel
theorem dX12_put_50 : decode cX12_put 50 = .ok (.iaload, 1) := by decide +kernel
theorem dX12_put_51 : decode cX12_put 51 = .ok (.ifCond .ne 8, 3) := by decide +kernel
theorem dX12_put_54 : decode cX12_put 54 = .ok (.iload_n 3, 1) := by decide +kernel
theorem dX12_put_55 : decode cX12_put 55 = .ok (.i2b, 1) := by decide +kernel
theorem dX12_put_56 : decode cX12_put 56 = .ok (.goto 19, 3) := by decide +kernel
theorem dX12_put_59 : decode cX12_put 59 = .ok (.aload_n 0, 1) := by decide +kernel
theorem dX12_put_60 : decode cX12_put 60 = .ok (.getfield 40, 3) := by decide +kernel
theorem dX12_put_63 : decode cX12_put 63 = .ok (.iload_n 1, 1) := by decide +kernel
theorem dX12_put_64 : decode cX12_put 64 = .ok (.iaload, 1) := by decide +kernel
theorem dX12_put_65 : decode cX12_put 65 = .ok (.iconst 1, 1) := by decide +kernel
theorem dX12_put_66 : decode cX12_put 66 = .ok (.if_icmp .ne 8, 3) := by decide +kernel
theorem dX12_put_69 : decode cX12_put 69 = .ok (.iload_n 3, 1) := by decide +kernel
theorem dX12_put_70 : decode cX12_put 70 = .ok (.i2s, 1) := by decide +kernel
theorem dX12_put_71 : decode cX12_put 71 = .ok (.goto 4, 3) := by decide +kernel
theorem dX12_put_74 : decode cX12_put 74 = .ok (.iload_n 3, 1) := by decide +kernel
theorem dX12_put_75 : decode cX12_put 75 = .ok (.iastore, 1) := by decide +kernel
theorem dX12_put_76 : decode cX12_put 76 = .ok (.iconst 0, 1) := by decide +kernel
theorem dX12_put_77 : decode cX12_put 77 = .ok (.ireturn, 1) := by decide +kernel
theorem dX12_element_0 : decode cX12_element 0 = .ok (.aload_n 0, 1) := by decide +kernel
theorem dX12_element_1 : decode cX12_element 1 = .ok (.iload_n 1, 1) := by decide +kernel
theorem dX12_element_2 : decode cX12_element 2 = .ok (.invokestatic 246, 3) := by decide +kernel
theorem dX12_element_5 : decode cX12_element 5 = .ok (.ifCond .ne 7, 3) := by decide +kernel
theorem dX12_element_8 : decode cX12_element 8 = .ok (.iconst 1, 1) := by decide +kernel
theorem dX12_element_9 : decode cX12_element 9 = .ok (.goto 34, 3) := by decide +kernel
theorem dX12_element_12 : decode cX12_element 12 = .ok (.aload_n 0, 1) := by decide +kernel
theorem dX12_element_13 : decode cX12_element 13 = .ok (.getfield 31, 3) := by decide +kernel
theorem dX12_element_16 : decode cX12_element 16 = .ok (.iload_n 1, 1) := by decide +kernel
theorem dX12_element_17 : decode cX12_element 17 = .ok (.iaload, 1) := by decide +kernel
theorem dX12_element_18 : decode cX12_element 18 = .ok (.iconst 2, 1) := by decide +kernel
theorem dX12_element_19 : decode cX12_element 19 = .ok (.if_icmp .ne 19, 3) := by decide +kernel
theorem dX12_element_22 : decode cX12_element 22 = .ok (.iload_n 2, 1) := by decide +kernel
theorem dX12_element_23 : decode cX12_element 23 = .ok (.iconst 0, 1) := by decide +kernel
theorem dX12_element_24 : decode cX12_element 24 = .ok (.aload_n 0, 1) := by decide +kernel
theorem dX12_element_25 : decode cX12_element 25 = .ok (.getfield 43, 3) := by decide +kernel
theorem dX12_element_28 : decode cX12_element 28 = .ok (.iload_n 1, 1) := by decide +kernel
theorem dX12_element_29 : decode cX12_element 29 = .ok (.iaload, 1) := by decide +kernel
theorem dX12_element_30 : decode cX12_element 30 = .ok (.iconst 1, 1) := by decide +kernel
theorem dX12_element_31 : decode cX12_element 31 = .ok (.isub, 1) := by decide +kernel
theorem dX12_element_32 : decode cX12_element 32 = .ok (.invokestatic 49, 3) := by decide +kernel
theorem dX12_element_35 : decode cX12_element 35 = .ok (.ifCond .ne 7, 3) := by decide +kernel
theorem dX12_element_38 : decode cX12_element 38 = .ok (.iconst 2, 1) := by decide +kernel
theorem dX12_element_39 : decode cX12_element 39 = .ok (.goto 4, 3) := by decide +kernel
theorem dX12_element_42 : decode cX12_element 42 = .ok (.iconst 0, 1) := by decide +kernel
theorem dX12_element_43 : decode cX12_element 43 = .ok (.putfield 243, 3) := by decide +kernel
theorem dX12_element_46 : decode cX12_element 46 = .ok (.aload_n 0, 1) := by decide +kernel
theorem dX12_element_47 : decode cX12_element 47 = .ok (.getfield 243, 3) := by decide +kernel
theorem dX12_element_50 : decode cX12_element 50 = .ok (.ifCond .ne 18, 3) := by decide +kernel
theorem dX12_element_53 : decode cX12_element 53 = .ok (.aload_n 0, 1) := by decide +kernel
theorem dX12_element_54 : decode cX12_element 54 = .ok (.getfield 46, 3) := by decide +kernel
theorem dX12_element_57 : decode cX12_element 57 = .ok (.bipush 100, 2) := by decide +kernel
theorem dX12_element_59 : decode cX12_element 59 = .ok (.iload_n 1, 1) := by decide +kernel
theorem dX12_element_60 : decode cX12_element 60 = .ok (.imul, 1) := by decide +kernel
theorem dX12_element_61 : decode cX12_element 61 = .ok (.iload_n 2, 1) := by decide +kernel
theorem dX12_element_62 : decode cX12_element 62 = .ok (.iadd, 1) := by decide +kernel
theorem dX12_element_63 : decode cX12_element 63 = .ok (.iaload, 1) := by decide +kernel
theorem dX12_element_64 : decode cX12_element 64 = .ok (.i2l, 1) := by decide +kernel
theorem dX12_element_65 : decode cX12_element 65 = .ok (.goto 4, 3) := by decide +kernel
theorem dX12_element_68 : decode cX12_element 68 = .ok (.lconst 0, 1) := by decide +kernel
theorem dX12_element_69 : decode cX12_element 69 = .ok (.lreturn, 1) := by decide +kernel
theorem dX12_copy_0 : decode cX12_copy 0 = .ok (.iload_n 1, 1) := by decide +kernel
theorem dX12_copy_1 : decode cX12_copy 1 = .ok (.invokestatic 246, 3) := by decide +kernel
theorem dX12_copy_4 : decode cX12_copy 4 = .ok (.ifCond .eq 10, 3) := by decide +kernel
theorem dX12_copy_7 : decode cX12_copy 7 = .ok (.iload_n 3, 1) := by decide +kernel
theorem dX12_copy_8 : decode cX12_copy 8 = .ok (.invokestatic 246, 3) := by decide +kernel
theorem dX12_copy_11 : decode cX12_copy 11 = .ok (.ifCond .ne 5, 3) := by decide +kernel
theorem dX12_copy_14 : decode cX12_copy 14 = .ok (.iconst (-1), 1) := by decide +kernel
theorem dX12_copy_15 : decode cX12_copy 15 = .ok (.ireturn, 1) := by decide +kernel
theorem dX12_copy_16 : decode cX12_copy 16 = .ok (.aload_n 0, 1) := by decide +kernel
theorem dX12_copy_17 : decode cX12_copy 17 = .ok (.getfield 31, 3) := by decide +kernel
theorem dX12_copy_20 : decode cX12_copy 20 = .ok (.iload_n 1, 1) := by decide +kernel
theorem dX12_copy_21 : decode cX12_copy 21 = .ok (.iaload, 1) := by decide +kernel
theorem dX12_copy_22 : decode cX12_copy 22 = .ok (.ifCond .eq 12, 3) := by decide +kernel
theorem dX12_copy_25 : decode cX12_copy 25 = .ok (.aload_n 0, 1) := by decide +kernel
theorem dX12_copy_26 : decode cX12_copy 26 = .ok (.getfield 31, 3) := by decide +kernel
theorem dX12_copy_29 : decode cX12_copy 29 = .ok (.iload_n 3, 1) := by decide +kernel
theorem dX12_copy_30 : decode cX12_copy 30 = .ok (.iaload, 1) := by decide +kernel
theorem dX12_copy_31 : decode cX12_copy 31 = .ok (.ifCond .ne 6, 3) := by decide +kernel
theorem dX12_copy_34 : decode cX12_copy 34 = .ok (.bipush (-11), 2) := by decide +kernel
theorem dX12_copy_36 : decode cX12_copy 36 = .ok (.ireturn, 1) := by decide +kernel
theorem dX12_copy_37 : decode cX12_copy 37 = .ok (.aload_n 0, 1) := by decide +kernel
theorem dX12_copy_38 : decode cX12_copy 38 = .ok (.getfield 31, 3) := by decide +kernel
theorem dX12_copy_41 : decode cX12_copy 41 = .ok (.iload_n 1, 1) := by decide +kernel
theorem dX12_copy_42 : decode cX12_copy 42 = .ok (.iaload, 1) := by decide +kernel
theorem dX12_copy_43 : decode cX12_copy 43 = .ok (.iconst 2, 1) := by decide +kernel
theorem dX12_copy_44 : decode cX12_copy 44 = .ok (.if_icmp .ne 28, 3) := by decide +kernel
theorem dX12_copy_47 : decode cX12_copy 47 = .ok (.aload_n 0, 1) := by decide +kernel
theorem dX12_copy_48 : decode cX12_copy 48 = .ok (.getfield 31, 3) := by decide +kernel
theorem dX12_copy_51 : decode cX12_copy 51 = .ok (.iload_n 3, 1) := by decide +kernel
theorem dX12_copy_52 : decode cX12_copy 52 = .ok (.iaload, 1) := by decide +kernel
theorem dX12_copy_53 : decode cX12_copy 53 = .ok (.iconst 2, 1) := by decide +kernel
theorem dX12_copy_54 : decode cX12_copy 54 = .ok (.if_icmp .ne 18, 3) := by decide +kernel
theorem dX12_copy_57 : decode cX12_copy 57 = .ok (.aload_n 0, 1) := by decide +kernel
theorem dX12_copy_58 : decode cX12_copy 58 = .ok (.getfield 40, 3) := by decide +kernel
theorem dX12_copy_61 : decode cX12_copy 61 = .ok (.iload_n 1, 1) := by decide +kernel
theorem dX12_copy_62 : decode cX12_copy 62 = .ok (.iaload, 1) := by decide +kernel
theorem dX12_copy_63 : decode cX12_copy 63 = .ok (.aload_n 0, 1) := by decide +kernel
theorem dX12_copy_64 : decode cX12_copy 64 = .ok (.getfield 40, 3) := by decide +kernel
theorem dX12_copy_67 : decode cX12_copy 67 = .ok (.iload_n 3, 1) := by decide +kernel
theorem dX12_copy_68 : decode cX12_copy 68 = .ok (.iaload, 1) := by decide +kernel
theorem dX12_copy_69 : decode cX12_copy 69 = .ok (.if_icmp .eq 6, 3) := by decide +kernel
theorem dX12_copy_72 : decode cX12_copy 72 = .ok (.bipush (-12), 2) := by decide +kernel
theorem dX12_copy_74 : decode cX12_copy 74 = .ok (.ireturn, 1) := by decide +kernel
theorem dX12_copy_75 : decode cX12_copy 75 = .ok (.iload 5, 2) := by decide +kernel
theorem dX12_copy_77 : decode cX12_copy 77 = .ok (.ifCond .lt 39, 3) := by decide +kernel
theorem dX12_copy_80 : decode cX12_copy 80 = .ok (.iload_n 2, 1) := by decide +kernel
theorem dX12_copy_81 : decode cX12_copy 81 = .ok (.ifCond .lt 35, 3) := by decide +kernel
theorem dX12_copy_84 : decode cX12_copy 84 = .ok (.iload 4, 2) := by decide +kernel
theorem dX12_copy_86 : decode cX12_copy 86 = .ok (.ifCond .lt 30, 3) := by decide +kernel
theorem dX12_copy_89 : decode cX12_copy 89 = .ok (.iload 5, 2) := by decide +kernel
theorem dX12_copy_91 : decode cX12_copy 91 = .ok (.aload_n 0, 1) := by decide +kernel
theorem dX12_copy_92 : decode cX12_copy 92 = .ok (.getfield 43, 3) := by decide +kernel
theorem dX12_copy_95 : decode cX12_copy 95 = .ok (.iload_n 1, 1) := by decide +kernel
theorem dX12_copy_96 : decode cX12_copy 96 = .ok (.iaload, 1) := by decide +kernel
theorem dX12_copy_97 : decode cX12_copy 97 = .ok (.iload_n 2, 1) := by decide +kernel
theorem dX12_copy_98 : decode cX12_copy 98 = .ok (.isub, 1) := by decide +kernel
theorem dX12_copy_99 : decode cX12_copy 99 = .ok (.if_icmp .gt 17, 3) := by decide +kernel
theorem dX12_copy_102 : decode cX12_copy 102 = .ok (.iload 5, 2) := by decide +kernel
theorem dX12_copy_104 : decode cX12_copy 104 = .ok (.aload_n 0, 1) := by decide +kernel
theorem dX12_copy_105 : decode cX12_copy 105 = .ok (.getfield 43, 3) := by decide +kernel
theorem dX12_copy_108 : decode cX12_copy 108 = .ok (.iload_n 3, 1) := by decide +kernel
theorem dX12_copy_109 : decode cX12_copy 109 = .ok (.iaload, 1) := by decide +kernel
theorem dX12_copy_110 : decode cX12_copy 110 = .ok (.iload 4, 2) := by decide +kernel
theorem dX12_copy_112 : decode cX12_copy 112 = .ok (.isub, 1) := by decide +kernel
theorem dX12_copy_113 : decode cX12_copy 113 = .ok (.if_icmp .le 6, 3) := by decide +kernel
theorem dX12_copy_116 : decode cX12_copy 116 = .ok (.bipush (-13), 2) := by decide +kernel
theorem dX12_copy_118 : decode cX12_copy 118 = .ok (.ireturn, 1) := by decide +kernel
theorem dX12_copy_119 : decode cX12_copy 119 = .ok (.iconst 0, 1) := by decide +kernel
theorem dX12_copy_120 : decode cX12_copy 120 = .ok (.istore 6, 2) := by decide +kernel
theorem dX12_copy_122 : decode cX12_copy 122 = .ok (.iload 6, 2) := by decide +kernel
theorem dX12_copy_124 : decode cX12_copy 124 = .ok (.iload 5, 2) := by decide +kernel
theorem dX12_copy_126 : decode cX12_copy 126 = .ok (.if_icmp .ge 58, 3) := by decide +kernel
theorem dX12_copy_129 : decode cX12_copy 129 = .ok (.iload_n 2, 1) := by decide +kernel
theorem dX12_copy_130 : decode cX12_copy 130 = .ok (.iload 4, 2) := by decide +kernel
theorem dX12_copy_132 : decode cX12_copy 132 = .ok (.if_icmp .le 8, 3) := by decide +kernel
theorem dX12_copy_135 : decode cX12_copy 135 = .ok (.iload 6, 2) := by decide +kernel
theorem dX12_copy_137 : decode cX12_copy 137 = .ok (.goto 10, 3) := by decide +kernel
theorem dX12_copy_140 : decode cX12_copy 140 = .ok (.iload 5, 2) := by decide +kernel
theorem dX12_copy_142 : decode cX12_copy 142 = .ok (.iconst 1, 1) := by decide +kernel
theorem dX12_copy_143 : decode cX12_copy 143 = .ok (.isub, 1) := by decide +kernel
theorem dX12_copy_144 : decode cX12_copy 144 = .ok (.iload 6, 2) := by decide +kernel
theorem dX12_copy_146 : decode cX12_copy 146 = .ok (.isub, 1) := by decide +kernel
theorem dX12_copy_147 : decode cX12_copy 147 = .ok (.istore 7, 2) := by decide +kernel
theorem dX12_copy_149 : decode cX12_copy 149 = .ok (.aload_n 0, 1) := by decide +kernel
theorem dX12_copy_150 : decode cX12_copy 150 = .ok (.getfield 46, 3) := by decide +kernel
theorem dX12_copy_153 : decode cX12_copy 153 = .ok (.bipush 100, 2) := by decide +kernel
theorem dX12_copy_155 : decode cX12_copy 155 = .ok (.iload_n 3, 1) := by decide +kernel
theorem dX12_copy_156 : decode cX12_copy 156 = .ok (.imul, 1) := by decide +kernel
theorem dX12_copy_157 : decode cX12_copy 157 = .ok (.iload 4, 2) := by decide +kernel
theorem dX12_copy_159 : decode cX12_copy 159 = .ok (.iadd, 1) := by decide +kernel
theorem dX12_copy_160 : decode cX12_copy 160 = .ok (.iload 7, 2) := by decide +kernel
theorem dX12_copy_162 : decode cX12_copy 162 = .ok (.iadd, 1) := by decide +kernel
theorem dX12_copy_163 : decode cX12_copy 163 = .ok (.aload_n 0, 1) := by decide +kernel
theorem dX12_copy_164 : decode cX12_copy 164 = .ok (.getfield 46, 3) := by decide +kernel
theorem dX12_copy_167 : decode cX12_copy 167 = .ok (.bipush 100, 2) := by decide +kernel
theorem dX12_copy_169 : decode cX12_copy 169 = .ok (.iload_n 1, 1) := by decide +kernel
theorem dX12_copy_170 : decode cX12_copy 170 = .ok (.imul, 1) := by decide +kernel
theorem dX12_copy_171 : decode cX12_copy 171 = .ok (.iload_n 2, 1) := by decide +kernel
theorem dX12_copy_172 : decode cX12_copy 172 = .ok (.iadd, 1) := by decide +kernel
theorem dX12_copy_173 : decode cX12_copy 173 = .ok (.iload 7, 2) := by decide +kernel
theorem dX12_copy_175 : decode cX12_copy 175 = .ok (.iadd, 1) := by decide +kernel
theorem dX12_copy_176 : decode cX12_copy 176 = .ok (.iaload, 1) := by decide +kernel
theorem dX12_copy_177 : decode cX12_copy 177 = .ok (.iastore, 1) := by decide +kernel
theorem dX12_copy_178 : decode cX12_copy 178 = .ok (.iinc 6 1, 3) := by decide +kernel
theorem dX12_copy_181 : decode cX12_copy 181 = .ok (.goto (-59), 3) := by decide +kernel
theorem dX12_copy_184 : decode cX12_copy 184 = .ok (.iload 5, 2) := by decide +kernel
theorem dX12_copy_186 : decode cX12_copy 186 = .ok (.ireturn, 1) := by decide +kernel
theorem dX12_costBy_0 : decode cX12_costBy 0 = .ok (.iload_n 0, 1) := by decide +kernel
theorem dX12_costBy_1 : decode cX12_costBy 1 = .ok (.tableswitch 63 1 7 #[43, 47, 49, 51, 57, 57, 59], 43) := by decide +kernel
theorem dX12_costBy_44 : decode cX12_costBy 44 = .ok (.iconst 2, 1) := by decide +kernel
theorem dX12_costBy_45 : decode cX12_costBy 45 = .ok (.iload_n 1, 1) := by decide +kernel
theorem dX12_costBy_46 : decode cX12_costBy 46 = .ok (.iadd, 1) := by decide +kernel
theorem dX12_costBy_47 : decode cX12_costBy 47 = .ok (.ireturn, 1) := by decide +kernel
theorem dX12_costBy_48 : decode cX12_costBy 48 = .ok (.iconst 1, 1) := by decide +kernel
theorem dX12_costBy_49 : decode cX12_costBy 49 = .ok (.ireturn, 1) := by decide +kernel
theorem dX12_costBy_50 : decode cX12_costBy 50 = .ok (.iconst 5, 1) := by decide +kernel
theorem dX12_costBy_51 : decode cX12_costBy 51 = .ok (.ireturn, 1) := by decide +kernel
theorem dX12_costBy_52 : decode cX12_costBy 52 = .ok (.iconst 2, 1) := by decide +kernel
theorem dX12_costBy_53 : decode cX12_costBy 53 = .ok (.iconst 2, 1) := by decide +kernel
theorem dX12_costBy_54 : decode cX12_costBy 54 = .ok (.iload_n 1, 1) := by decide +kernel
theorem dX12_costBy_55 : decode cX12_costBy 55 = .ok (.iadd, 1) := by decide +kernel
theorem dX12_costBy_56 : decode cX12_costBy 56 = .ok (.imul, 1) := by decide +kernel
theorem dX12_costBy_57 : decode cX12_costBy 57 = .ok (.ireturn, 1) := by decide +kernel
theorem dX12_costBy_58 : decode cX12_costBy 58 = .ok (.iconst 0, 1) := by decide +kernel
theorem dX12_costBy_59 : decode cX12_costBy 59 = .ok (.ireturn, 1) := by decide +kernel
theorem dX12_costBy_60 : decode cX12_costBy 60 = .ok (.iconst 1, 1) := by decide +kernel
theorem dX12_costBy_61 : decode cX12_costBy 61 = .ok (.iload_n 1, 1) := by decide +kernel
theorem dX12_costBy_62 : decode cX12_costBy 62 = .ok (.iadd, 1) := by decide +kernel
theorem dX12_costBy_63 : decode cX12_costBy 63 = .ok (.ireturn, 1) := by decide +kernel
theorem dX12_costBy_64 : decode cX12_costBy 64 = .ok (.iconst 2, 1) := by decide +kernel
theorem dX12_costBy_65 : decode cX12_costBy 65 = .ok (.ireturn, 1) := by decide +kernel
theorem dX12_cost_0 : decode cX12_cost 0 = .ok (.aload_n 0, 1) := by decide +kernel
theorem dX12_cost_1 : decode cX12_cost 1 = .ok (.iload_n 1, 1) := by decide +kernel
theorem dX12_cost_2 : decode cX12_cost 2 = .ok (.invokevirtual 152, 3) := by decide +kernel
theorem dX12_cost_5 : decode cX12_cost 5 = .ok (.istore_n 2, 1) := by decide +kernel
theorem dX12_cost_6 : decode cX12_cost 6 = .ok (.iload_n 2, 1) := by decide +kernel
theorem dX12_cost_7 : decode cX12_cost 7 = .ok (.ifCond .eq 7, 3) := by decide +kernel
theorem dX12_cost_10 : decode cX12_cost 10 = .ok (.iload_n 2, 1) := by decide +kernel
theorem dX12_cost_11 : decode cX12_cost 11 = .ok (.goto 18, 3) := by decide +kernel
theorem dX12_cost_14 : decode cX12_cost 14 = .ok (.aload_n 0, 1) := by decide +kernel
theorem dX12_cost_15 : decode cX12_cost 15 = .ok (.getfield 34, 3) := by decide +kernel
theorem dX12_cost_18 : decode cX12_cost 18 = .ok (.iload_n 1, 1) := by decide +kernel
theorem dX12_cost_19 : decode cX12_cost 19 = .ok (.iaload, 1) := by decide +kernel
theorem dX12_cost_20 : decode cX12_cost 20 = .ok (.aload_n 0, 1) := by decide +kernel
theorem dX12_cost_21 : decode cX12_cost 21 = .ok (.getfield 37, 3) := by decide +kernel
theorem dX12_cost_24 : decode cX12_cost 24 = .ok (.iload_n 1, 1) := by decide +kernel
theorem dX12_cost_25 : decode cX12_cost 25 = .ok (.iaload, 1) := by decide +kernel
theorem dX12_cost_26 : decode cX12_cost 26 = .ok (.invokestatic 249, 3) := by decide +kernel
theorem dX12_cost_29 : decode cX12_cost 29 = .ok (.ireturn, 1) := by decide +kernel
theorem dX12_toss_0 : decode cX12_toss 0 = .ok (.aload_n 0, 1) := by decide +kernel
theorem dX12_toss_1 : decode cX12_toss 1 = .ok (.iload_n 1, 1) := by decide +kernel
theorem dX12_toss_2 : decode cX12_toss 2 = .ok (.invokevirtual 152, 3) := by decide +kernel
theorem dX12_toss_5 : decode cX12_toss 5 = .ok (.istore_n 2, 1) := by decide +kernel
theorem dX12_toss_6 : decode cX12_toss 6 = .ok (.iload_n 2, 1) := by decide +kernel
theorem dX12_toss_7 : decode cX12_toss 7 = .ok (.ifCond .eq 5, 3) := by decide +kernel
theorem dX12_toss_10 : decode cX12_toss 10 = .ok (.iload_n 2, 1) := by decide +kernel
theorem dX12_toss_11 : decode cX12_toss 11 = .ok (.ireturn, 1) := by decide +kernel
theorem dX12_toss_12 : decode cX12_toss 12 = .ok (.aload_n 0, 1) := by decide +kernel
theorem dX12_toss_13 : decode cX12_toss 13 = .ok (.getfield 34, 3) := by decide +kernel
theorem dX12_toss_16 : decode cX12_toss 16 = .ok (.iload_n 1, 1) := by decide +kernel
theorem dX12_toss_17 : decode cX12_toss 17 = .ok (.iaload, 1) := by decide +kernel
theorem dX12_toss_18 : decode cX12_toss 18 = .ok (.istore_n 3, 1) := by decide +kernel
theorem dX12_toss_19 : decode cX12_toss 19 = .ok (.aload_n 0, 1) := by decide +kernel
theorem dX12_toss_20 : decode cX12_toss 20 = .ok (.getfield 37, 3) := by decide +kernel
theorem dX12_toss_23 : decode cX12_toss 23 = .ok (.iload_n 1, 1) := by decide +kernel
theorem dX12_toss_24 : decode cX12_toss 24 = .ok (.iaload, 1) := by decide +kernel
theorem dX12_toss_25 : decode cX12_toss 25 = .ok (.istore 4, 2) := by decide +kernel
theorem dX12_toss_27 : decode cX12_toss 27 = .ok (.iload_n 3, 1) := by decide +kernel
theorem dX12_toss_28 : decode cX12_toss 28 = .ok (.iconst 2, 1) := by decide +kernel
theorem dX12_toss_29 : decode cX12_toss 29 = .ok (.if_icmp .eq 14, 3) := by decide +kernel
theorem dX12_toss_32 : decode cX12_toss 32 = .ok (.iload_n 3, 1) := by decide +kernel
theorem dX12_toss_33 : decode cX12_toss 33 = .ok (.bipush 6, 2) := by decide +kernel
theorem dX12_toss_35 : decode cX12_toss 35 = .ok (.if_icmp .eq 8, 3) := by decide +kernel
theorem dX12_toss_38 : decode cX12_toss 38 = .ok (.iload 4, 2) := by decide +kernel
theorem dX12_toss_40 : decode cX12_toss 40 = .ok (.ifCond .ne 6, 3) := by decide +kernel
theorem dX12_toss_43 : decode cX12_toss 43 = .ok (.bipush (-15), 2) := by decide +kernel
theorem dX12_toss_45 : decode cX12_toss 45 = .ok (.ireturn, 1) := by decide +kernel
theorem dX12_toss_46 : decode cX12_toss 46 = .ok (.iload_n 3, 1) := by decide +kernel
theorem dX12_toss_47 : decode cX12_toss 47 = .ok (.iconst 4, 1) := by decide +kernel
theorem dX12_toss_48 : decode cX12_toss 48 = .ok (.if_icmp .ne 16, 3) := by decide +kernel
theorem dX12_toss_51 : decode cX12_toss 51 = .ok (.sipush 200, 3) := by decide +kernel
theorem dX12_toss_54 : decode cX12_toss 54 = .ok (.iload_n 3, 1) := by decide +kernel
theorem dX12_toss_55 : decode cX12_toss 55 = .ok (.iload 4, 2) := by decide +kernel
theorem dX12_toss_57 : decode cX12_toss 57 = .ok (.invokestatic 249, 3) := by decide +kernel
theorem dX12_toss_60 : decode cX12_toss 60 = .ok (.iadd, 1) := by decide +kernel
theorem dX12_toss_61 : decode cX12_toss 61 = .ok (.goto 23, 3) := by decide +kernel
theorem dX12_toss_64 : decode cX12_toss 64 = .ok (.iload_n 3, 1) := by decide +kernel
theorem dX12_toss_65 : decode cX12_toss 65 = .ok (.iconst 3, 1) := by decide +kernel
theorem dX12_toss_66 : decode cX12_toss 66 = .ok (.if_icmp .eq 8, 3) := by decide +kernel
theorem dX12_toss_69 : decode cX12_toss 69 = .ok (.iload_n 3, 1) := by decide +kernel
theorem dX12_toss_70 : decode cX12_toss 70 = .ok (.iconst 5, 1) := by decide +kernel
theorem dX12_toss_71 : decode cX12_toss 71 = .ok (.if_icmp .ne 11, 3) := by decide +kernel
theorem dX12_toss_74 : decode cX12_toss 74 = .ok (.bipush 100, 2) := by decide +kernel
theorem dX12_toss_76 : decode cX12_toss 76 = .ok (.iload 4, 2) := by decide +kernel
theorem dX12_toss_78 : decode cX12_toss 78 = .ok (.iadd, 1) := by decide +kernel
theorem dX12_toss_79 : decode cX12_toss 79 = .ok (.goto 5, 3) := by decide +kernel
theorem dX12_toss_82 : decode cX12_toss 82 = .ok (.iload 4, 2) := by decide +kernel
theorem dX12_toss_84 : decode cX12_toss 84 = .ok (.ireturn, 1) := by decide +kernel
end
section
theorem dL_element_0 : decode cL_element 0 = .ok (.aload_n 3, 1) := by decide +kernel
theorem dL_element_1 : decode cL_element 1 = .ok (.iconst 0, 1) := by decide +kernel
theorem dL_element_2 : decode cL_element 2 = .ok (.aload_n 0, 1) := by decide +kernel
theorem dL_element_3 : decode cL_element 3 = .ok (.iload_n 1, 1) := by decide +kernel
theorem dL_element_4 : decode cL_element 4 = .ok (.iload_n 2, 1) := by decide +kernel
theorem dL_element_5 : decode cL_element 5 = .ok (.invokevirtual 7, 3) := by decide +kernel
theorem dL_element_8 : decode cL_element 8 = .ok (.lastore, 1) := by decide +kernel
theorem dL_element_9 : decode cL_element 9 = .ok (.goto 11, 3) := by decide +kernel
theorem dL_element_12 : decode cL_element 12 = .ok (.astore 4, 2) := by decide +kernel
theorem dL_element_14 : decode cL_element 14 = .ok (.iconst 1, 1) := by decide +kernel
theorem dL_element_15 : decode cL_element 15 = .ok (.ireturn, 1) := by decide +kernel
theorem dL_element_16 : decode cL_element 16 = .ok (.astore 4, 2) := by decide +kernel
theorem dL_element_18 : decode cL_element 18 = .ok (.iconst 2, 1) := by decide +kernel
theorem dL_element_19 : decode cL_element 19 = .ok (.ireturn, 1) := by decide +kernel
theorem dL_element_20 : decode cL_element 20 = .ok (.iconst 0, 1) := by decide +kernel
theorem dL_element_21 : decode cL_element 21 = .ok (.ireturn, 1) := by decide +kernel
theorem dL_law_0 : decode cL_law 0 = .ok (.new 8, 3) := by decide +kernel
theorem dL_law_3 : decode cL_law 3 = .ok (.dup, 1) := by decide +kernel
theorem dL_law_4 : decode cL_law 4 = .ok (.invokespecial 17, 3) := by decide +kernel
theorem dL_law_7 : decode cL_law 7 = .ok (.astore_n 1, 1) := by decide +kernel
theorem dL_law_8 : decode cL_law 8 = .ok (.new 18, 3) := by decide +kernel
theorem dL_law_11 : decode cL_law 11 = .ok (.dup, 1) := by decide +kernel
theorem dL_law_12 : decode cL_law 12 = .ok (.invokespecial 20, 3) := by decide +kernel
theorem dL_law_15 : decode cL_law 15 = .ok (.astore_n 2, 1) := by decide +kernel
theorem dL_law_16 : decode cL_law 16 = .ok (.iconst 1, 1) := by decide +kernel
theorem dL_law_17 : decode cL_law 17 = .ok (.newarray .long, 2) := by decide +kernel
theorem dL_law_19 : decode cL_law 19 = .ok (.astore_n 3, 1) := by decide +kernel
theorem dL_law_20 : decode cL_law 20 = .ok (.iconst 0, 1) := by decide +kernel
theorem dL_law_21 : decode cL_law 21 = .ok (.istore 4, 2) := by decide +kernel
theorem dL_law_23 : decode cL_law 23 = .ok (.iload 4, 2) := by decide +kernel
theorem dL_law_25 : decode cL_law 25 = .ok (.aload_n 0, 1) := by decide +kernel
theorem dL_law_26 : decode cL_law 26 = .ok (.arraylength, 1) := by decide +kernel
theorem dL_law_27 : decode cL_law 27 = .ok (.bipush 6, 2) := by decide +kernel
theorem dL_law_29 : decode cL_law 29 = .ok (.isub, 1) := by decide +kernel
theorem dL_law_30 : decode cL_law 30 = .ok (.if_icmp .gt 1526, 3) := by decide +kernel
theorem dL_law_33 : decode cL_law 33 = .ok (.aload_n 0, 1) := by decide +kernel
theorem dL_law_34 : decode cL_law 34 = .ok (.iload 4, 2) := by decide +kernel
theorem dL_law_36 : decode cL_law 36 = .ok (.iaload, 1) := by decide +kernel
theorem dL_law_37 : decode cL_law 37 = .ok (.bipush 63, 2) := by decide +kernel
theorem dL_law_39 : decode cL_law 39 = .ok (.iand, 1) := by decide +kernel
theorem dL_law_40 : decode cL_law 40 = .ok (.tableswitch 1510 0 37 #[168, 193, 230, 267, 292, 341, 378, 415, 440, 477, 514, 539, 564, 601, 626, 651, 688, 713, 738, 751, 776, 825, 874, 923, 985, 1011, 1036, 1061, 1110, 1123, 1136, 1161, 1222, 1271, 1320, 1387, 1460, 1485], 168) := by decide +kernel
theorem dL_law_208 : decode cL_law 208 = .ok (.aload_n 1, 1) := by decide +kernel
theorem dL_law_209 : decode cL_law 209 = .ok (.aload_n 0, 1) := by decide +kernel
theorem dL_law_210 : decode cL_law 210 = .ok (.iload 4, 2) := by decide +kernel
theorem dL_law_212 : decode cL_law 212 = .ok (.iconst 1, 1) := by decide +kernel
theorem dL_law_213 : decode cL_law 213 = .ok (.iadd, 1) := by decide +kernel
theorem dL_law_214 : decode cL_law 214 = .ok (.iaload, 1) := by decide +kernel
theorem dL_law_215 : decode cL_law 215 = .ok (.invokevirtual 21, 3) := by decide +kernel
theorem dL_law_218 : decode cL_law 218 = .ok (.aload_n 2, 1) := by decide +kernel
theorem dL_law_219 : decode cL_law 219 = .ok (.aload_n 0, 1) := by decide +kernel
theorem dL_law_220 : decode cL_law 220 = .ok (.iload 4, 2) := by decide +kernel
theorem dL_law_222 : decode cL_law 222 = .ok (.iconst 1, 1) := by decide +kernel
theorem dL_law_223 : decode cL_law 223 = .ok (.iadd, 1) := by decide +kernel
theorem dL_law_224 : decode cL_law 224 = .ok (.iaload, 1) := by decide +kernel
theorem dL_law_225 : decode cL_law 225 = .ok (.invokevirtual 25, 3) := by decide +kernel
theorem dL_law_228 : decode cL_law 228 = .ok (.if_icmp .eq 1322, 3) := by decide +kernel
theorem dL_law_231 : decode cL_law 231 = .ok (.iconst 0, 1) := by decide +kernel
theorem dL_law_232 : decode cL_law 232 = .ok (.ireturn, 1) := by decide +kernel
theorem dL_law_233 : decode cL_law 233 = .ok (.aload_n 1, 1) := by decide +kernel
theorem dL_law_234 : decode cL_law 234 = .ok (.aload_n 0, 1) := by decide +kernel
theorem dL_law_235 : decode cL_law 235 = .ok (.iload 4, 2) := by decide +kernel
theorem dL_law_237 : decode cL_law 237 = .ok (.iconst 1, 1) := by decide +kernel
theorem dL_law_238 : decode cL_law 238 = .ok (.iadd, 1) := by decide +kernel
theorem dL_law_239 : decode cL_law 239 = .ok (.iaload, 1) := by decide +kernel
theorem dL_law_240 : decode cL_law 240 = .ok (.aload_n 0, 1) := by decide +kernel
theorem dL_law_241 : decode cL_law 241 = .ok (.iload 4, 2) := by decide +kernel
theorem dL_law_243 : decode cL_law 243 = .ok (.iconst 2, 1) := by decide +kernel
theorem dL_law_244 : decode cL_law 244 = .ok (.iadd, 1) := by decide +kernel
theorem dL_law_245 : decode cL_law 245 = .ok (.iaload, 1) := by decide +kernel
theorem dL_law_246 : decode cL_law 246 = .ok (.invokevirtual 26, 3) := by decide +kernel
theorem dL_law_249 : decode cL_law 249 = .ok (.aload_n 2, 1) := by decide +kernel
theorem dL_law_250 : decode cL_law 250 = .ok (.aload_n 0, 1) := by decide +kernel
theorem dL_law_251 : decode cL_law 251 = .ok (.iload 4, 2) := by decide +kernel
theorem dL_law_253 : decode cL_law 253 = .ok (.iconst 1, 1) := by decide +kernel
theorem dL_law_254 : decode cL_law 254 = .ok (.iadd, 1) := by decide +kernel
theorem dL_law_255 : decode cL_law 255 = .ok (.iaload, 1) := by decide +kernel
theorem dL_law_256 : decode cL_law 256 = .ok (.aload_n 0, 1) := by decide +kernel
theorem dL_law_257 : decode cL_law 257 = .ok (.iload 4, 2) := by decide +kernel
theorem dL_law_259 : decode cL_law 259 = .ok (.iconst 2, 1) := by decide +kernel
theorem dL_law_260 : decode cL_law 260 = .ok (.iadd, 1) := by decide +kernel
theorem dL_law_261 : decode cL_law 261 = .ok (.iaload, 1) := by decide +kernel
theorem dL_law_262 : decode cL_law 262 = .ok (.invokevirtual 30, 3) := by decide +kernel
theorem dL_law_265 : decode cL_law 265 = .ok (.if_icmp .eq 1285, 3) := by decide +kernel
theorem dL_law_268 : decode cL_law 268 = .ok (.iconst 0, 1) := by decide +kernel
theorem dL_law_269 : decode cL_law 269 = .ok (.ireturn, 1) := by decide +kernel
theorem dL_law_270 : decode cL_law 270 = .ok (.aload_n 1, 1) := by decide +kernel
theorem dL_law_271 : decode cL_law 271 = .ok (.aload_n 0, 1) := by decide +kernel
theorem dL_law_272 : decode cL_law 272 = .ok (.iload 4, 2) := by decide +kernel
theorem dL_law_274 : decode cL_law 274 = .ok (.iconst 1, 1) := by decide +kernel
theorem dL_law_275 : decode cL_law 275 = .ok (.iadd, 1) := by decide +kernel
theorem dL_law_276 : decode cL_law 276 = .ok (.iaload, 1) := by decide +kernel
theorem dL_law_277 : decode cL_law 277 = .ok (.aload_n 0, 1) := by decide +kernel
theorem dL_law_278 : decode cL_law 278 = .ok (.iload 4, 2) := by decide +kernel
theorem dL_law_280 : decode cL_law 280 = .ok (.iconst 2, 1) := by decide +kernel
theorem dL_law_281 : decode cL_law 281 = .ok (.iadd, 1) := by decide +kernel
theorem dL_law_282 : decode cL_law 282 = .ok (.iaload, 1) := by decide +kernel
theorem dL_law_283 : decode cL_law 283 = .ok (.invokevirtual 31, 3) := by decide +kernel
theorem dL_law_286 : decode cL_law 286 = .ok (.aload_n 2, 1) := by decide +kernel
theorem dL_law_287 : decode cL_law 287 = .ok (.aload_n 0, 1) := by decide +kernel
theorem dL_law_288 : decode cL_law 288 = .ok (.iload 4, 2) := by decide +kernel
theorem dL_law_290 : decode cL_law 290 = .ok (.iconst 1, 1) := by decide +kernel
theorem dL_law_291 : decode cL_law 291 = .ok (.iadd, 1) := by decide +kernel
theorem dL_law_292 : decode cL_law 292 = .ok (.iaload, 1) := by decide +kernel
theorem dL_law_293 : decode cL_law 293 = .ok (.aload_n 0, 1) := by decide +kernel
theorem dL_law_294 : decode cL_law 294 = .ok (.iload 4, 2) := by decide +kernel
theorem dL_law_296 : decode cL_law 296 = .ok (.iconst 2, 1) := by decide +kernel
theorem dL_law_297 : decode cL_law 297 = .ok (.iadd, 1) := by decide +kernel
theorem dL_law_298 : decode cL_law 298 = .ok (.iaload, 1) := by decide +kernel
theorem dL_law_299 : decode cL_law 299 = .ok (.invokevirtual 34, 3) := by decide +kernel
theorem dL_law_302 : decode cL_law 302 = .ok (.if_icmp .eq 1248, 3) := by decide +kernel
theorem dL_law_305 : decode cL_law 305 = .ok (.iconst 0, 1) := by decide +kernel
theorem dL_law_306 : decode cL_law 306 = .ok (.ireturn, 1) := by decide +kernel
theorem dL_law_307 : decode cL_law 307 = .ok (.aload_n 1, 1) := by decide +kernel
theorem dL_law_308 : decode cL_law 308 = .ok (.aload_n 0, 1) := by decide +kernel
theorem dL_law_309 : decode cL_law 309 = .ok (.iload 4, 2) := by decide +kernel
theorem dL_law_311 : decode cL_law 311 = .ok (.iconst 1, 1) := by decide +kernel
theorem dL_law_312 : decode cL_law 312 = .ok (.iadd, 1) := by decide +kernel
theorem dL_law_313 : decode cL_law 313 = .ok (.iaload, 1) := by decide +kernel
theorem dL_law_314 : decode cL_law 314 = .ok (.invokevirtual 35, 3) := by decide +kernel
theorem dL_law_317 : decode cL_law 317 = .ok (.aload_n 2, 1) := by decide +kernel
theorem dL_law_318 : decode cL_law 318 = .ok (.aload_n 0, 1) := by decide +kernel
theorem dL_law_319 : decode cL_law 319 = .ok (.iload 4, 2) := by decide +kernel
theorem dL_law_321 : decode cL_law 321 = .ok (.iconst 1, 1) := by decide +kernel
theorem dL_law_322 : decode cL_law 322 = .ok (.iadd, 1) := by decide +kernel
theorem dL_law_323 : decode cL_law 323 = .ok (.iaload, 1) := by decide +kernel
theorem dL_law_324 : decode cL_law 324 = .ok (.invokevirtual 38, 3) := by decide +kernel
theorem dL_law_327 : decode cL_law 327 = .ok (.if_icmp .eq 1223, 3) := by decide +kernel
theorem dL_law_330 : decode cL_law 330 = .ok (.iconst 0, 1) := by decide +kernel
theorem dL_law_331 : decode cL_law 331 = .ok (.ireturn, 1) := by decide +kernel
theorem dL_law_332 : decode cL_law 332 = .ok (.aload_n 1, 1) := by decide +kernel
theorem dL_law_333 : decode cL_law 333 = .ok (.aload_n 0, 1) := by decide +kernel
theorem dL_law_334 : decode cL_law 334 = .ok (.iload 4, 2) := by decide +kernel
theorem dL_law_336 : decode cL_law 336 = .ok (.iconst 1, 1) := by decide +kernel
theorem dL_law_337 : decode cL_law 337 = .ok (.iadd, 1) := by decide +kernel
theorem dL_law_338 : decode cL_law 338 = .ok (.iaload, 1) := by decide +kernel
theorem dL_law_339 : decode cL_law 339 = .ok (.aload_n 0, 1) := by decide +kernel
theorem dL_law_340 : decode cL_law 340 = .ok (.iload 4, 2) := by decide +kernel
theorem dL_law_342 : decode cL_law 342 = .ok (.iconst 2, 1) := by decide +kernel
theorem dL_law_343 : decode cL_law 343 = .ok (.iadd, 1) := by decide +kernel
theorem dL_law_344 : decode cL_law 344 = .ok (.iaload, 1) := by decide +kernel
theorem dL_law_345 : decode cL_law 345 = .ok (.aload_n 0, 1) := by decide +kernel
theorem dL_law_346 : decode cL_law 346 = .ok (.iload 4, 2) := by decide +kernel
theorem dL_law_348 : decode cL_law 348 = .ok (.iconst 3, 1) := by decide +kernel
theorem dL_law_349 : decode cL_law 349 = .ok (.iadd, 1) := by decide +kernel
theorem dL_law_350 : decode cL_law 350 = .ok (.iaload, 1) := by decide +kernel
theorem dL_law_351 : decode cL_law 351 = .ok (.invokevirtual 39, 3) := by decide +kernel
theorem dL_law_354 : decode cL_law 354 = .ok (.aload_n 2, 1) := by decide +kernel
theorem dL_law_355 : decode cL_law 355 = .ok (.aload_n 0, 1) := by decide +kernel
theorem dL_law_356 : decode cL_law 356 = .ok (.iload 4, 2) := by decide +kernel
theorem dL_law_358 : decode cL_law 358 = .ok (.iconst 1, 1) := by decide +kernel
theorem dL_law_359 : decode cL_law 359 = .ok (.iadd, 1) := by decide +kernel
theorem dL_law_360 : decode cL_law 360 = .ok (.iaload, 1) := by decide +kernel
theorem dL_law_361 : decode cL_law 361 = .ok (.aload_n 0, 1) := by decide +kernel
theorem dL_law_362 : decode cL_law 362 = .ok (.iload 4, 2) := by decide +kernel
theorem dL_law_364 : decode cL_law 364 = .ok (.iconst 2, 1) := by decide +kernel
theorem dL_law_365 : decode cL_law 365 = .ok (.iadd, 1) := by decide +kernel
theorem dL_law_366 : decode cL_law 366 = .ok (.iaload, 1) := by decide +kernel
theorem dL_law_367 : decode cL_law 367 = .ok (.aload_n 0, 1) := by decide +kernel
theorem dL_law_368 : decode cL_law 368 = .ok (.iload 4, 2) := by decide +kernel
theorem dL_law_370 : decode cL_law 370 = .ok (.iconst 3, 1) := by decide +kernel
theorem dL_law_371 : decode cL_law 371 = .ok (.iadd, 1) := by decide +kernel
theorem dL_law_372 : decode cL_law 372 = .ok (.iaload, 1) := by decide +kernel
theorem dL_law_373 : decode cL_law 373 = .ok (.invokevirtual 43, 3) := by decide +kernel
theorem dL_law_376 : decode cL_law 376 = .ok (.if_icmp .eq 1174, 3) := by decide +kernel
theorem dL_law_379 : decode cL_law 379 = .ok (.iconst 0, 1) := by decide +kernel
theorem dL_law_380 : decode cL_law 380 = .ok (.ireturn, 1) := by decide +kernel
theorem dL_law_381 : decode cL_law 381 = .ok (.aload_n 1, 1) := by decide +kernel
theorem dL_law_382 : decode cL_law 382 = .ok (.aload_n 0, 1) := by decide +kernel
theorem dL_law_383 : decode cL_law 383 = .ok (.iload 4, 2) := by decide +kernel
theorem dL_law_385 : decode cL_law 385 = .ok (.iconst 1, 1) := by decide +kernel
theorem dL_law_386 : decode cL_law 386 = .ok (.iadd, 1) := by decide +kernel
theorem dL_law_387 : decode cL_law 387 = .ok (.iaload, 1) := by decide +kernel
theorem dL_law_388 : decode cL_law 388 = .ok (.aload_n 0, 1) := by decide +kernel
theorem dL_law_389 : decode cL_law 389 = .ok (.iload 4, 2) := by decide +kernel
theorem dL_law_391 : decode cL_law 391 = .ok (.iconst 2, 1) := by decide +kernel
theorem dL_law_392 : decode cL_law 392 = .ok (.iadd, 1) := by decide +kernel
theorem dL_law_393 : decode cL_law 393 = .ok (.iaload, 1) := by decide +kernel
theorem dL_law_394 : decode cL_law 394 = .ok (.invokevirtual 44, 3) := by decide +kernel
theorem dL_law_397 : decode cL_law 397 = .ok (.aload_n 2, 1) := by decide +kernel
theorem dL_law_398 : decode cL_law 398 = .ok (.aload_n 0, 1) := by decide +kernel
theorem dL_law_399 : decode cL_law 399 = .ok (.iload 4, 2) := by decide +kernel
theorem dL_law_401 : decode cL_law 401 = .ok (.iconst 1, 1) := by decide +kernel
theorem dL_law_402 : decode cL_law 402 = .ok (.iadd, 1) := by decide +kernel
theorem dL_law_403 : decode cL_law 403 = .ok (.iaload, 1) := by decide +kernel
theorem dL_law_404 : decode cL_law 404 = .ok (.aload_n 0, 1) := by decide +kernel
theorem dL_law_405 : decode cL_law 405 = .ok (.iload 4, 2) := by decide +kernel
theorem dL_law_407 : decode cL_law 407 = .ok (.iconst 2, 1) := by decide +kernel
theorem dL_law_408 : decode cL_law 408 = .ok (.iadd, 1) := by decide +kernel
theorem dL_law_409 : decode cL_law 409 = .ok (.iaload, 1) := by decide +kernel
theorem dL_law_410 : decode cL_law 410 = .ok (.invokevirtual 47, 3) := by decide +kernel
theorem dL_law_413 : decode cL_law 413 = .ok (.if_icmp .eq 1137, 3) := by decide +kernel
theorem dL_law_416 : decode cL_law 416 = .ok (.iconst 0, 1) := by decide +kernel
theorem dL_law_417 : decode cL_law 417 = .ok (.ireturn, 1) := by decide +kernel
theorem dL_law_418 : decode cL_law 418 = .ok (.aload_n 1, 1) := by decide +kernel
theorem dL_law_419 : decode cL_law 419 = .ok (.aload_n 0, 1) := by decide +kernel
theorem dL_law_420 : decode cL_law 420 = .ok (.iload 4, 2) := by decide +kernel
theorem dL_law_422 : decode cL_law 422 = .ok (.iconst 1, 1) := by decide +kernel
theorem dL_law_423 : decode cL_law 423 = .ok (.iadd, 1) := by decide +kernel
theorem dL_law_424 : decode cL_law 424 = .ok (.iaload, 1) := by decide +kernel
theorem dL_law_425 : decode cL_law 425 = .ok (.aload_n 0, 1) := by decide +kernel
theorem dL_law_426 : decode cL_law 426 = .ok (.iload 4, 2) := by decide +kernel
theorem dL_law_428 : decode cL_law 428 = .ok (.iconst 2, 1) := by decide +kernel
theorem dL_law_429 : decode cL_law 429 = .ok (.iadd, 1) := by decide +kernel
theorem dL_law_430 : decode cL_law 430 = .ok (.iaload, 1) := by decide +kernel
theorem dL_law_431 : decode cL_law 431 = .ok (.invokevirtual 48, 3) := by decide +kernel
theorem dL_law_434 : decode cL_law 434 = .ok (.aload_n 2, 1) := by decide +kernel
theorem dL_law_435 : decode cL_law 435 = .ok (.aload_n 0, 1) := by decide +kernel
theorem dL_law_436 : decode cL_law 436 = .ok (.iload 4, 2) := by decide +kernel
theorem dL_law_438 : decode cL_law 438 = .ok (.iconst 1, 1) := by decide +kernel
theorem dL_law_439 : decode cL_law 439 = .ok (.iadd, 1) := by decide +kernel
theorem dL_law_440 : decode cL_law 440 = .ok (.iaload, 1) := by decide +kernel
theorem dL_law_441 : decode cL_law 441 = .ok (.aload_n 0, 1) := by decide +kernel
theorem dL_law_442 : decode cL_law 442 = .ok (.iload 4, 2) := by decide +kernel
theorem dL_law_444 : decode cL_law 444 = .ok (.iconst 2, 1) := by decide +kernel
theorem dL_law_445 : decode cL_law 445 = .ok (.iadd, 1) := by decide +kernel
theorem dL_law_446 : decode cL_law 446 = .ok (.iaload, 1) := by decide +kernel
theorem dL_law_447 : decode cL_law 447 = .ok (.invokevirtual 51, 3) := by decide +kernel
theorem dL_law_450 : decode cL_law 450 = .ok (.if_icmp .eq 1100, 3) := by decide +kernel
theorem dL_law_453 : decode cL_law 453 = .ok (.iconst 0, 1) := by decide +kernel
theorem dL_law_454 : decode cL_law 454 = .ok (.ireturn, 1) := by decide +kernel
theorem dL_law_455 : decode cL_law 455 = .ok (.aload_n 1, 1) := by decide +kernel
theorem dL_law_456 : decode cL_law 456 = .ok (.aload_n 0, 1) := by decide +kernel
theorem dL_law_457 : decode cL_law 457 = .ok (.iload 4, 2) := by decide +kernel
theorem dL_law_459 : decode cL_law 459 = .ok (.iconst 1, 1) := by decide +kernel
theorem dL_law_460 : decode cL_law 460 = .ok (.iadd, 1) := by decide +kernel
theorem dL_law_461 : decode cL_law 461 = .ok (.iaload, 1) := by decide +kernel
theorem dL_law_462 : decode cL_law 462 = .ok (.invokevirtual 52, 3) := by decide +kernel
theorem dL_law_465 : decode cL_law 465 = .ok (.aload_n 2, 1) := by decide +kernel
theorem dL_law_466 : decode cL_law 466 = .ok (.aload_n 0, 1) := by decide +kernel
theorem dL_law_467 : decode cL_law 467 = .ok (.iload 4, 2) := by decide +kernel
theorem dL_law_469 : decode cL_law 469 = .ok (.iconst 1, 1) := by decide +kernel
theorem dL_law_470 : decode cL_law 470 = .ok (.iadd, 1) := by decide +kernel
theorem dL_law_471 : decode cL_law 471 = .ok (.iaload, 1) := by decide +kernel
theorem dL_law_472 : decode cL_law 472 = .ok (.invokevirtual 55, 3) := by decide +kernel
theorem dL_law_475 : decode cL_law 475 = .ok (.if_icmp .eq 1075, 3) := by decide +kernel
theorem dL_law_478 : decode cL_law 478 = .ok (.iconst 0, 1) := by decide +kernel
theorem dL_law_479 : decode cL_law 479 = .ok (.ireturn, 1) := by decide +kernel
theorem dL_law_480 : decode cL_law 480 = .ok (.aload_n 1, 1) := by decide +kernel
theorem dL_law_481 : decode cL_law 481 = .ok (.aload_n 0, 1) := by decide +kernel
theorem dL_law_482 : decode cL_law 482 = .ok (.iload 4, 2) := by decide +kernel
theorem dL_law_484 : decode cL_law 484 = .ok (.iconst 1, 1) := by decide +kernel
theorem dL_law_485 : decode cL_law 485 = .ok (.iadd, 1) := by decide +kernel
theorem dL_law_486 : decode cL_law 486 = .ok (.iaload, 1) := by decide +kernel
theorem dL_law_487 : decode cL_law 487 = .ok (.aload_n 0, 1) := by decide +kernel
theorem dL_law_488 : decode cL_law 488 = .ok (.iload 4, 2) := by decide +kernel
theorem dL_law_490 : decode cL_law 490 = .ok (.iconst 2, 1) := by decide +kernel
theorem dL_law_491 : decode cL_law 491 = .ok (.iadd, 1) := by decide +kernel
theorem dL_law_492 : decode cL_law 492 = .ok (.iaload, 1) := by decide +kernel
theorem dL_law_493 : decode cL_law 493 = .ok (.invokevirtual 56, 3) := by decide +kernel
theorem dL_law_496 : decode cL_law 496 = .ok (.aload_n 2, 1) := by decide +kernel
theorem dL_law_497 : decode cL_law 497 = .ok (.aload_n 0, 1) := by decide +kernel
theorem dL_law_498 : decode cL_law 498 = .ok (.iload 4, 2) := by decide +kernel
theorem dL_law_500 : decode cL_law 500 = .ok (.iconst 1, 1) := by decide +kernel
theorem dL_law_501 : decode cL_law 501 = .ok (.iadd, 1) := by decide +kernel
theorem dL_law_502 : decode cL_law 502 = .ok (.iaload, 1) := by decide +kernel
theorem dL_law_503 : decode cL_law 503 = .ok (.aload_n 0, 1) := by decide +kernel
theorem dL_law_504 : decode cL_law 504 = .ok (.iload 4, 2) := by decide +kernel
theorem dL_law_506 : decode cL_law 506 = .ok (.iconst 2, 1) := by decide +kernel
theorem dL_law_507 : decode cL_law 507 = .ok (.iadd, 1) := by decide +kernel
theorem dL_law_508 : decode cL_law 508 = .ok (.iaload, 1) := by decide +kernel
theorem dL_law_509 : decode cL_law 509 = .ok (.invokevirtual 59, 3) := by decide +kernel
theorem dL_law_512 : decode cL_law 512 = .ok (.if_icmp .eq 1038, 3) := by decide +kernel
theorem dL_law_515 : decode cL_law 515 = .ok (.iconst 0, 1) := by decide +kernel
theorem dL_law_516 : decode cL_law 516 = .ok (.ireturn, 1) := by decide +kernel
theorem dL_law_517 : decode cL_law 517 = .ok (.aload_n 1, 1) := by decide +kernel
theorem dL_law_518 : decode cL_law 518 = .ok (.aload_n 0, 1) := by decide +kernel
theorem dL_law_519 : decode cL_law 519 = .ok (.iload 4, 2) := by decide +kernel
theorem dL_law_521 : decode cL_law 521 = .ok (.iconst 1, 1) := by decide +kernel
theorem dL_law_522 : decode cL_law 522 = .ok (.iadd, 1) := by decide +kernel
theorem dL_law_523 : decode cL_law 523 = .ok (.iaload, 1) := by decide +kernel
theorem dL_law_524 : decode cL_law 524 = .ok (.aload_n 0, 1) := by decide +kernel
theorem dL_law_525 : decode cL_law 525 = .ok (.iload 4, 2) := by decide +kernel
theorem dL_law_527 : decode cL_law 527 = .ok (.iconst 2, 1) := by decide +kernel
theorem dL_law_528 : decode cL_law 528 = .ok (.iadd, 1) := by decide +kernel
theorem dL_law_529 : decode cL_law 529 = .ok (.iaload, 1) := by decide +kernel
theorem dL_law_530 : decode cL_law 530 = .ok (.invokevirtual 60, 3) := by decide +kernel
theorem dL_law_533 : decode cL_law 533 = .ok (.aload_n 2, 1) := by decide +kernel
theorem dL_law_534 : decode cL_law 534 = .ok (.aload_n 0, 1) := by decide +kernel
theorem dL_law_535 : decode cL_law 535 = .ok (.iload 4, 2) := by decide +kernel
theorem dL_law_537 : decode cL_law 537 = .ok (.iconst 1, 1) := by decide +kernel
theorem dL_law_538 : decode cL_law 538 = .ok (.iadd, 1) := by decide +kernel
theorem dL_law_539 : decode cL_law 539 = .ok (.iaload, 1) := by decide +kernel
theorem dL_law_540 : decode cL_law 540 = .ok (.aload_n 0, 1) := by decide +kernel
theorem dL_law_541 : decode cL_law 541 = .ok (.iload 4, 2) := by decide +kernel
theorem dL_law_543 : decode cL_law 543 = .ok (.iconst 2, 1) := by decide +kernel
theorem dL_law_544 : decode cL_law 544 = .ok (.iadd, 1) := by decide +kernel
theorem dL_law_545 : decode cL_law 545 = .ok (.iaload, 1) := by decide +kernel
theorem dL_law_546 : decode cL_law 546 = .ok (.invokevirtual 63, 3) := by decide +kernel
theorem dL_law_549 : decode cL_law 549 = .ok (.if_icmp .eq 1001, 3) := by decide +kernel
theorem dL_law_552 : decode cL_law 552 = .ok (.iconst 0, 1) := by decide +kernel
theorem dL_law_553 : decode cL_law 553 = .ok (.ireturn, 1) := by decide +kernel
theorem dL_law_554 : decode cL_law 554 = .ok (.aload_n 1, 1) := by decide +kernel
theorem dL_law_555 : decode cL_law 555 = .ok (.aload_n 0, 1) := by decide +kernel
theorem dL_law_556 : decode cL_law 556 = .ok (.iload 4, 2) := by decide +kernel
theorem dL_law_558 : decode cL_law 558 = .ok (.iconst 1, 1) := by decide +kernel
theorem dL_law_559 : decode cL_law 559 = .ok (.iadd, 1) := by decide +kernel
theorem dL_law_560 : decode cL_law 560 = .ok (.iaload, 1) := by decide +kernel
theorem dL_law_561 : decode cL_law 561 = .ok (.invokevirtual 64, 3) := by decide +kernel
theorem dL_law_564 : decode cL_law 564 = .ok (.aload_n 2, 1) := by decide +kernel
theorem dL_law_565 : decode cL_law 565 = .ok (.aload_n 0, 1) := by decide +kernel
theorem dL_law_566 : decode cL_law 566 = .ok (.iload 4, 2) := by decide +kernel
theorem dL_law_568 : decode cL_law 568 = .ok (.iconst 1, 1) := by decide +kernel
theorem dL_law_569 : decode cL_law 569 = .ok (.iadd, 1) := by decide +kernel
theorem dL_law_570 : decode cL_law 570 = .ok (.iaload, 1) := by decide +kernel
theorem dL_law_571 : decode cL_law 571 = .ok (.invokevirtual 67, 3) := by decide +kernel
theorem dL_law_574 : decode cL_law 574 = .ok (.if_icmp .eq 976, 3) := by decide +kernel
theorem dL_law_577 : decode cL_law 577 = .ok (.iconst 0, 1) := by decide +kernel
theorem dL_law_578 : decode cL_law 578 = .ok (.ireturn, 1) := by decide +kernel
theorem dL_law_579 : decode cL_law 579 = .ok (.aload_n 1, 1) := by decide +kernel
theorem dL_law_580 : decode cL_law 580 = .ok (.aload_n 0, 1) := by decide +kernel
theorem dL_law_581 : decode cL_law 581 = .ok (.iload 4, 2) := by decide +kernel
theorem dL_law_583 : decode cL_law 583 = .ok (.iconst 1, 1) := by decide +kernel
theorem dL_law_584 : decode cL_law 584 = .ok (.iadd, 1) := by decide +kernel
theorem dL_law_585 : decode cL_law 585 = .ok (.iaload, 1) := by decide +kernel
theorem dL_law_586 : decode cL_law 586 = .ok (.invokevirtual 68, 3) := by decide +kernel
theorem dL_law_589 : decode cL_law 589 = .ok (.aload_n 2, 1) := by decide +kernel
theorem dL_law_590 : decode cL_law 590 = .ok (.aload_n 0, 1) := by decide +kernel
theorem dL_law_591 : decode cL_law 591 = .ok (.iload 4, 2) := by decide +kernel
theorem dL_law_593 : decode cL_law 593 = .ok (.iconst 1, 1) := by decide +kernel
theorem dL_law_594 : decode cL_law 594 = .ok (.iadd, 1) := by decide +kernel
theorem dL_law_595 : decode cL_law 595 = .ok (.iaload, 1) := by decide +kernel
theorem dL_law_596 : decode cL_law 596 = .ok (.invokevirtual 71, 3) := by decide +kernel
theorem dL_law_599 : decode cL_law 599 = .ok (.if_icmp .eq 951, 3) := by decide +kernel
theorem dL_law_602 : decode cL_law 602 = .ok (.iconst 0, 1) := by decide +kernel
theorem dL_law_603 : decode cL_law 603 = .ok (.ireturn, 1) := by decide +kernel
theorem dL_law_604 : decode cL_law 604 = .ok (.aload_n 1, 1) := by decide +kernel
theorem dL_law_605 : decode cL_law 605 = .ok (.aload_n 0, 1) := by decide +kernel
theorem dL_law_606 : decode cL_law 606 = .ok (.iload 4, 2) := by decide +kernel
theorem dL_law_608 : decode cL_law 608 = .ok (.iconst 1, 1) := by decide +kernel
theorem dL_law_609 : decode cL_law 609 = .ok (.iadd, 1) := by decide +kernel
theorem dL_law_610 : decode cL_law 610 = .ok (.iaload, 1) := by decide +kernel
theorem dL_law_611 : decode cL_law 611 = .ok (.aload_n 0, 1) := by decide +kernel
theorem dL_law_612 : decode cL_law 612 = .ok (.iload 4, 2) := by decide +kernel
theorem dL_law_614 : decode cL_law 614 = .ok (.iconst 2, 1) := by decide +kernel
theorem dL_law_615 : decode cL_law 615 = .ok (.iadd, 1) := by decide +kernel
theorem dL_law_616 : decode cL_law 616 = .ok (.iaload, 1) := by decide +kernel
theorem dL_law_617 : decode cL_law 617 = .ok (.invokevirtual 72, 3) := by decide +kernel
theorem dL_law_620 : decode cL_law 620 = .ok (.aload_n 2, 1) := by decide +kernel
theorem dL_law_621 : decode cL_law 621 = .ok (.aload_n 0, 1) := by decide +kernel
theorem dL_law_622 : decode cL_law 622 = .ok (.iload 4, 2) := by decide +kernel
theorem dL_law_624 : decode cL_law 624 = .ok (.iconst 1, 1) := by decide +kernel
theorem dL_law_625 : decode cL_law 625 = .ok (.iadd, 1) := by decide +kernel
theorem dL_law_626 : decode cL_law 626 = .ok (.iaload, 1) := by decide +kernel
theorem dL_law_627 : decode cL_law 627 = .ok (.aload_n 0, 1) := by decide +kernel
theorem dL_law_628 : decode cL_law 628 = .ok (.iload 4, 2) := by decide +kernel
theorem dL_law_630 : decode cL_law 630 = .ok (.iconst 2, 1) := by decide +kernel
theorem dL_law_631 : decode cL_law 631 = .ok (.iadd, 1) := by decide +kernel
theorem dL_law_632 : decode cL_law 632 = .ok (.iaload, 1) := by decide +kernel
theorem dL_law_633 : decode cL_law 633 = .ok (.invokevirtual 75, 3) := by decide +kernel
theorem dL_law_636 : decode cL_law 636 = .ok (.if_icmp .eq 914, 3) := by decide +kernel
theorem dL_law_639 : decode cL_law 639 = .ok (.iconst 0, 1) := by decide +kernel
theorem dL_law_640 : decode cL_law 640 = .ok (.ireturn, 1) := by decide +kernel
theorem dL_law_641 : decode cL_law 641 = .ok (.aload_n 1, 1) := by decide +kernel
theorem dL_law_642 : decode cL_law 642 = .ok (.aload_n 0, 1) := by decide +kernel
theorem dL_law_643 : decode cL_law 643 = .ok (.iload 4, 2) := by decide +kernel
theorem dL_law_645 : decode cL_law 645 = .ok (.iconst 1, 1) := by decide +kernel
theorem dL_law_646 : decode cL_law 646 = .ok (.iadd, 1) := by decide +kernel
theorem dL_law_647 : decode cL_law 647 = .ok (.iaload, 1) := by decide +kernel
theorem dL_law_648 : decode cL_law 648 = .ok (.invokevirtual 76, 3) := by decide +kernel
theorem dL_law_651 : decode cL_law 651 = .ok (.aload_n 2, 1) := by decide +kernel
theorem dL_law_652 : decode cL_law 652 = .ok (.aload_n 0, 1) := by decide +kernel
theorem dL_law_653 : decode cL_law 653 = .ok (.iload 4, 2) := by decide +kernel
theorem dL_law_655 : decode cL_law 655 = .ok (.iconst 1, 1) := by decide +kernel
theorem dL_law_656 : decode cL_law 656 = .ok (.iadd, 1) := by decide +kernel
theorem dL_law_657 : decode cL_law 657 = .ok (.iaload, 1) := by decide +kernel
theorem dL_law_658 : decode cL_law 658 = .ok (.invokevirtual 79, 3) := by decide +kernel
theorem dL_law_661 : decode cL_law 661 = .ok (.if_icmp .eq 889, 3) := by decide +kernel
theorem dL_law_664 : decode cL_law 664 = .ok (.iconst 0, 1) := by decide +kernel
theorem dL_law_665 : decode cL_law 665 = .ok (.ireturn, 1) := by decide +kernel
theorem dL_law_666 : decode cL_law 666 = .ok (.aload_n 1, 1) := by decide +kernel
theorem dL_law_667 : decode cL_law 667 = .ok (.aload_n 0, 1) := by decide +kernel
theorem dL_law_668 : decode cL_law 668 = .ok (.iload 4, 2) := by decide +kernel
theorem dL_law_670 : decode cL_law 670 = .ok (.iconst 1, 1) := by decide +kernel
theorem dL_law_671 : decode cL_law 671 = .ok (.iadd, 1) := by decide +kernel
theorem dL_law_672 : decode cL_law 672 = .ok (.iaload, 1) := by decide +kernel
theorem dL_law_673 : decode cL_law 673 = .ok (.invokevirtual 80, 3) := by decide +kernel
theorem dL_law_676 : decode cL_law 676 = .ok (.aload_n 2, 1) := by decide +kernel
theorem dL_law_677 : decode cL_law 677 = .ok (.aload_n 0, 1) := by decide +kernel
theorem dL_law_678 : decode cL_law 678 = .ok (.iload 4, 2) := by decide +kernel
theorem dL_law_680 : decode cL_law 680 = .ok (.iconst 1, 1) := by decide +kernel
theorem dL_law_681 : decode cL_law 681 = .ok (.iadd, 1) := by decide +kernel
theorem dL_law_682 : decode cL_law 682 = .ok (.iaload, 1) := by decide +kernel
theorem dL_law_683 : decode cL_law 683 = .ok (.invokevirtual 83, 3) := by decide +kernel
theorem dL_law_686 : decode cL_law 686 = .ok (.if_icmp .eq 864, 3) := by decide +kernel
theorem dL_law_689 : decode cL_law 689 = .ok (.iconst 0, 1) := by decide +kernel
theorem dL_law_690 : decode cL_law 690 = .ok (.ireturn, 1) := by decide +kernel
theorem dL_law_691 : decode cL_law 691 = .ok (.aload_n 1, 1) := by decide +kernel
theorem dL_law_692 : decode cL_law 692 = .ok (.aload_n 0, 1) := by decide +kernel
theorem dL_law_693 : decode cL_law 693 = .ok (.iload 4, 2) := by decide +kernel
theorem dL_law_695 : decode cL_law 695 = .ok (.iconst 1, 1) := by decide +kernel
theorem dL_law_696 : decode cL_law 696 = .ok (.iadd, 1) := by decide +kernel
theorem dL_law_697 : decode cL_law 697 = .ok (.iaload, 1) := by decide +kernel
theorem dL_law_698 : decode cL_law 698 = .ok (.aload_n 0, 1) := by decide +kernel
theorem dL_law_699 : decode cL_law 699 = .ok (.iload 4, 2) := by decide +kernel
theorem dL_law_701 : decode cL_law 701 = .ok (.iconst 2, 1) := by decide +kernel
theorem dL_law_702 : decode cL_law 702 = .ok (.iadd, 1) := by decide +kernel
theorem dL_law_703 : decode cL_law 703 = .ok (.iaload, 1) := by decide +kernel
theorem dL_law_704 : decode cL_law 704 = .ok (.invokevirtual 84, 3) := by decide +kernel
theorem dL_law_707 : decode cL_law 707 = .ok (.aload_n 2, 1) := by decide +kernel
theorem dL_law_708 : decode cL_law 708 = .ok (.aload_n 0, 1) := by decide +kernel
theorem dL_law_709 : decode cL_law 709 = .ok (.iload 4, 2) := by decide +kernel
theorem dL_law_711 : decode cL_law 711 = .ok (.iconst 1, 1) := by decide +kernel
theorem dL_law_712 : decode cL_law 712 = .ok (.iadd, 1) := by decide +kernel
theorem dL_law_713 : decode cL_law 713 = .ok (.iaload, 1) := by decide +kernel
theorem dL_law_714 : decode cL_law 714 = .ok (.aload_n 0, 1) := by decide +kernel
theorem dL_law_715 : decode cL_law 715 = .ok (.iload 4, 2) := by decide +kernel
theorem dL_law_717 : decode cL_law 717 = .ok (.iconst 2, 1) := by decide +kernel
theorem dL_law_718 : decode cL_law 718 = .ok (.iadd, 1) := by decide +kernel
theorem dL_law_719 : decode cL_law 719 = .ok (.iaload, 1) := by decide +kernel
theorem dL_law_720 : decode cL_law 720 = .ok (.invokevirtual 87, 3) := by decide +kernel
theorem dL_law_723 : decode cL_law 723 = .ok (.if_icmp .eq 827, 3) := by decide +kernel
theorem dL_law_726 : decode cL_law 726 = .ok (.iconst 0, 1) := by decide +kernel
theorem dL_law_727 : decode cL_law 727 = .ok (.ireturn, 1) := by decide +kernel
theorem dL_law_728 : decode cL_law 728 = .ok (.aload_n 1, 1) := by decide +kernel
theorem dL_law_729 : decode cL_law 729 = .ok (.aload_n 0, 1) := by decide +kernel
theorem dL_law_730 : decode cL_law 730 = .ok (.iload 4, 2) := by decide +kernel
theorem dL_law_732 : decode cL_law 732 = .ok (.iconst 1, 1) := by decide +kernel
theorem dL_law_733 : decode cL_law 733 = .ok (.iadd, 1) := by decide +kernel
theorem dL_law_734 : decode cL_law 734 = .ok (.iaload, 1) := by decide +kernel
theorem dL_law_735 : decode cL_law 735 = .ok (.invokevirtual 88, 3) := by decide +kernel
theorem dL_law_738 : decode cL_law 738 = .ok (.aload_n 2, 1) := by decide +kernel
theorem dL_law_739 : decode cL_law 739 = .ok (.aload_n 0, 1) := by decide +kernel
theorem dL_law_740 : decode cL_law 740 = .ok (.iload 4, 2) := by decide +kernel
theorem dL_law_742 : decode cL_law 742 = .ok (.iconst 1, 1) := by decide +kernel
theorem dL_law_743 : decode cL_law 743 = .ok (.iadd, 1) := by decide +kernel
theorem dL_law_744 : decode cL_law 744 = .ok (.iaload, 1) := by decide +kernel
theorem dL_law_745 : decode cL_law 745 = .ok (.invokevirtual 91, 3) := by decide +kernel
theorem dL_law_748 : decode cL_law 748 = .ok (.if_icmp .eq 802, 3) := by decide +kernel
theorem dL_law_751 : decode cL_law 751 = .ok (.iconst 0, 1) := by decide +kernel
theorem dL_law_752 : decode cL_law 752 = .ok (.ireturn, 1) := by decide +kernel
theorem dL_law_753 : decode cL_law 753 = .ok (.aload_n 1, 1) := by decide +kernel
theorem dL_law_754 : decode cL_law 754 = .ok (.aload_n 0, 1) := by decide +kernel
theorem dL_law_755 : decode cL_law 755 = .ok (.iload 4, 2) := by decide +kernel
theorem dL_law_757 : decode cL_law 757 = .ok (.iconst 1, 1) := by decide +kernel
theorem dL_law_758 : decode cL_law 758 = .ok (.iadd, 1) := by decide +kernel
theorem dL_law_759 : decode cL_law 759 = .ok (.iaload, 1) := by decide +kernel
theorem dL_law_760 : decode cL_law 760 = .ok (.invokevirtual 92, 3) := by decide +kernel
theorem dL_law_763 : decode cL_law 763 = .ok (.aload_n 2, 1) := by decide +kernel
theorem dL_law_764 : decode cL_law 764 = .ok (.aload_n 0, 1) := by decide +kernel
theorem dL_law_765 : decode cL_law 765 = .ok (.iload 4, 2) := by decide +kernel
theorem dL_law_767 : decode cL_law 767 = .ok (.iconst 1, 1) := by decide +kernel
theorem dL_law_768 : decode cL_law 768 = .ok (.iadd, 1) := by decide +kernel
theorem dL_law_769 : decode cL_law 769 = .ok (.iaload, 1) := by decide +kernel
theorem dL_law_770 : decode cL_law 770 = .ok (.invokevirtual 95, 3) := by decide +kernel
theorem dL_law_773 : decode cL_law 773 = .ok (.if_icmp .eq 777, 3) := by decide +kernel
theorem dL_law_776 : decode cL_law 776 = .ok (.iconst 0, 1) := by decide +kernel
theorem dL_law_777 : decode cL_law 777 = .ok (.ireturn, 1) := by decide +kernel
theorem dL_law_778 : decode cL_law 778 = .ok (.aload_n 1, 1) := by decide +kernel
theorem dL_law_779 : decode cL_law 779 = .ok (.invokevirtual 96, 3) := by decide +kernel
theorem dL_law_782 : decode cL_law 782 = .ok (.aload_n 2, 1) := by decide +kernel
theorem dL_law_783 : decode cL_law 783 = .ok (.invokevirtual 100, 3) := by decide +kernel
theorem dL_law_786 : decode cL_law 786 = .ok (.if_icmp .eq 764, 3) := by decide +kernel
theorem dL_law_789 : decode cL_law 789 = .ok (.iconst 0, 1) := by decide +kernel
theorem dL_law_790 : decode cL_law 790 = .ok (.ireturn, 1) := by decide +kernel
theorem dL_law_791 : decode cL_law 791 = .ok (.aload_n 1, 1) := by decide +kernel
theorem dL_law_792 : decode cL_law 792 = .ok (.aload_n 0, 1) := by decide +kernel
theorem dL_law_793 : decode cL_law 793 = .ok (.iload 4, 2) := by decide +kernel
theorem dL_law_795 : decode cL_law 795 = .ok (.iconst 1, 1) := by decide +kernel
theorem dL_law_796 : decode cL_law 796 = .ok (.iadd, 1) := by decide +kernel
theorem dL_law_797 : decode cL_law 797 = .ok (.iaload, 1) := by decide +kernel
theorem dL_law_798 : decode cL_law 798 = .ok (.invokevirtual 101, 3) := by decide +kernel
theorem dL_law_801 : decode cL_law 801 = .ok (.aload_n 2, 1) := by decide +kernel
theorem dL_law_802 : decode cL_law 802 = .ok (.aload_n 0, 1) := by decide +kernel
theorem dL_law_803 : decode cL_law 803 = .ok (.iload 4, 2) := by decide +kernel
theorem dL_law_805 : decode cL_law 805 = .ok (.iconst 1, 1) := by decide +kernel
theorem dL_law_806 : decode cL_law 806 = .ok (.iadd, 1) := by decide +kernel
theorem dL_law_807 : decode cL_law 807 = .ok (.iaload, 1) := by decide +kernel
theorem dL_law_808 : decode cL_law 808 = .ok (.invokevirtual 104, 3) := by decide +kernel
theorem dL_law_811 : decode cL_law 811 = .ok (.if_icmp .eq 739, 3) := by decide +kernel
theorem dL_law_814 : decode cL_law 814 = .ok (.iconst 0, 1) := by decide +kernel
theorem dL_law_815 : decode cL_law 815 = .ok (.ireturn, 1) := by decide +kernel
theorem dL_law_816 : decode cL_law 816 = .ok (.aload_n 1, 1) := by decide +kernel
theorem dL_law_817 : decode cL_law 817 = .ok (.aload_n 0, 1) := by decide +kernel
theorem dL_law_818 : decode cL_law 818 = .ok (.iload 4, 2) := by decide +kernel
theorem dL_law_820 : decode cL_law 820 = .ok (.iconst 1, 1) := by decide +kernel
theorem dL_law_821 : decode cL_law 821 = .ok (.iadd, 1) := by decide +kernel
theorem dL_law_822 : decode cL_law 822 = .ok (.iaload, 1) := by decide +kernel
theorem dL_law_823 : decode cL_law 823 = .ok (.aload_n 0, 1) := by decide +kernel
theorem dL_law_824 : decode cL_law 824 = .ok (.iload 4, 2) := by decide +kernel
theorem dL_law_826 : decode cL_law 826 = .ok (.iconst 2, 1) := by decide +kernel
theorem dL_law_827 : decode cL_law 827 = .ok (.iadd, 1) := by decide +kernel
theorem dL_law_828 : decode cL_law 828 = .ok (.iaload, 1) := by decide +kernel
theorem dL_law_829 : decode cL_law 829 = .ok (.aload_n 0, 1) := by decide +kernel
theorem dL_law_830 : decode cL_law 830 = .ok (.iload 4, 2) := by decide +kernel
theorem dL_law_832 : decode cL_law 832 = .ok (.iconst 3, 1) := by decide +kernel
theorem dL_law_833 : decode cL_law 833 = .ok (.iadd, 1) := by decide +kernel
theorem dL_law_834 : decode cL_law 834 = .ok (.iaload, 1) := by decide +kernel
theorem dL_law_835 : decode cL_law 835 = .ok (.invokevirtual 105, 3) := by decide +kernel
theorem dL_law_838 : decode cL_law 838 = .ok (.aload_n 2, 1) := by decide +kernel
theorem dL_law_839 : decode cL_law 839 = .ok (.aload_n 0, 1) := by decide +kernel
theorem dL_law_840 : decode cL_law 840 = .ok (.iload 4, 2) := by decide +kernel
theorem dL_law_842 : decode cL_law 842 = .ok (.iconst 1, 1) := by decide +kernel
theorem dL_law_843 : decode cL_law 843 = .ok (.iadd, 1) := by decide +kernel
theorem dL_law_844 : decode cL_law 844 = .ok (.iaload, 1) := by decide +kernel
theorem dL_law_845 : decode cL_law 845 = .ok (.aload_n 0, 1) := by decide +kernel
theorem dL_law_846 : decode cL_law 846 = .ok (.iload 4, 2) := by decide +kernel
theorem dL_law_848 : decode cL_law 848 = .ok (.iconst 2, 1) := by decide +kernel
theorem dL_law_849 : decode cL_law 849 = .ok (.iadd, 1) := by decide +kernel
theorem dL_law_850 : decode cL_law 850 = .ok (.iaload, 1) := by decide +kernel
theorem dL_law_851 : decode cL_law 851 = .ok (.aload_n 0, 1) := by decide +kernel
theorem dL_law_852 : decode cL_law 852 = .ok (.iload 4, 2) := by decide +kernel
theorem dL_law_854 : decode cL_law 854 = .ok (.iconst 3, 1) := by decide +kernel
theorem dL_law_855 : decode cL_law 855 = .ok (.iadd, 1) := by decide +kernel
theorem dL_law_856 : decode cL_law 856 = .ok (.iaload, 1) := by decide +kernel
theorem dL_law_857 : decode cL_law 857 = .ok (.invokevirtual 108, 3) := by decide +kernel
theorem dL_law_860 : decode cL_law 860 = .ok (.if_icmp .eq 690, 3) := by decide +kernel
theorem dL_law_863 : decode cL_law 863 = .ok (.iconst 0, 1) := by decide +kernel
theorem dL_law_864 : decode cL_law 864 = .ok (.ireturn, 1) := by decide +kernel
theorem dL_law_865 : decode cL_law 865 = .ok (.aload_n 1, 1) := by decide +kernel
theorem dL_law_866 : decode cL_law 866 = .ok (.aload_n 0, 1) := by decide +kernel
theorem dL_law_867 : decode cL_law 867 = .ok (.iload 4, 2) := by decide +kernel
theorem dL_law_869 : decode cL_law 869 = .ok (.iconst 1, 1) := by decide +kernel
theorem dL_law_870 : decode cL_law 870 = .ok (.iadd, 1) := by decide +kernel
theorem dL_law_871 : decode cL_law 871 = .ok (.iaload, 1) := by decide +kernel
theorem dL_law_872 : decode cL_law 872 = .ok (.aload_n 0, 1) := by decide +kernel
theorem dL_law_873 : decode cL_law 873 = .ok (.iload 4, 2) := by decide +kernel
theorem dL_law_875 : decode cL_law 875 = .ok (.iconst 2, 1) := by decide +kernel
theorem dL_law_876 : decode cL_law 876 = .ok (.iadd, 1) := by decide +kernel
theorem dL_law_877 : decode cL_law 877 = .ok (.iaload, 1) := by decide +kernel
theorem dL_law_878 : decode cL_law 878 = .ok (.aload_n 0, 1) := by decide +kernel
theorem dL_law_879 : decode cL_law 879 = .ok (.iload 4, 2) := by decide +kernel
theorem dL_law_881 : decode cL_law 881 = .ok (.iconst 3, 1) := by decide +kernel
theorem dL_law_882 : decode cL_law 882 = .ok (.iadd, 1) := by decide +kernel
theorem dL_law_883 : decode cL_law 883 = .ok (.iaload, 1) := by decide +kernel
theorem dL_law_884 : decode cL_law 884 = .ok (.invokevirtual 109, 3) := by decide +kernel
theorem dL_law_887 : decode cL_law 887 = .ok (.aload_n 2, 1) := by decide +kernel
theorem dL_law_888 : decode cL_law 888 = .ok (.aload_n 0, 1) := by decide +kernel
theorem dL_law_889 : decode cL_law 889 = .ok (.iload 4, 2) := by decide +kernel
theorem dL_law_891 : decode cL_law 891 = .ok (.iconst 1, 1) := by decide +kernel
theorem dL_law_892 : decode cL_law 892 = .ok (.iadd, 1) := by decide +kernel
theorem dL_law_893 : decode cL_law 893 = .ok (.iaload, 1) := by decide +kernel
theorem dL_law_894 : decode cL_law 894 = .ok (.aload_n 0, 1) := by decide +kernel
theorem dL_law_895 : decode cL_law 895 = .ok (.iload 4, 2) := by decide +kernel
theorem dL_law_897 : decode cL_law 897 = .ok (.iconst 2, 1) := by decide +kernel
theorem dL_law_898 : decode cL_law 898 = .ok (.iadd, 1) := by decide +kernel
theorem dL_law_899 : decode cL_law 899 = .ok (.iaload, 1) := by decide +kernel
theorem dL_law_900 : decode cL_law 900 = .ok (.aload_n 0, 1) := by decide +kernel
theorem dL_law_901 : decode cL_law 901 = .ok (.iload 4, 2) := by decide +kernel
theorem dL_law_903 : decode cL_law 903 = .ok (.iconst 3, 1) := by decide +kernel
theorem dL_law_904 : decode cL_law 904 = .ok (.iadd, 1) := by decide +kernel
theorem dL_law_905 : decode cL_law 905 = .ok (.iaload, 1) := by decide +kernel
theorem dL_law_906 : decode cL_law 906 = .ok (.invokevirtual 112, 3) := by decide +kernel
theorem dL_law_909 : decode cL_law 909 = .ok (.if_icmp .eq 641, 3) := by decide +kernel
theorem dL_law_912 : decode cL_law 912 = .ok (.iconst 0, 1) := by decide +kernel
theorem dL_law_913 : decode cL_law 913 = .ok (.ireturn, 1) := by decide +kernel
theorem dL_law_914 : decode cL_law 914 = .ok (.aload_n 1, 1) := by decide +kernel
theorem dL_law_915 : decode cL_law 915 = .ok (.aload_n 0, 1) := by decide +kernel
theorem dL_law_916 : decode cL_law 916 = .ok (.iload 4, 2) := by decide +kernel
theorem dL_law_918 : decode cL_law 918 = .ok (.iconst 1, 1) := by decide +kernel
theorem dL_law_919 : decode cL_law 919 = .ok (.iadd, 1) := by decide +kernel
theorem dL_law_920 : decode cL_law 920 = .ok (.iaload, 1) := by decide +kernel
theorem dL_law_921 : decode cL_law 921 = .ok (.aload_n 0, 1) := by decide +kernel
theorem dL_law_922 : decode cL_law 922 = .ok (.iload 4, 2) := by decide +kernel
theorem dL_law_924 : decode cL_law 924 = .ok (.iconst 2, 1) := by decide +kernel
theorem dL_law_925 : decode cL_law 925 = .ok (.iadd, 1) := by decide +kernel
theorem dL_law_926 : decode cL_law 926 = .ok (.iaload, 1) := by decide +kernel
theorem dL_law_927 : decode cL_law 927 = .ok (.aload_n 0, 1) := by decide +kernel
theorem dL_law_928 : decode cL_law 928 = .ok (.iload 4, 2) := by decide +kernel
theorem dL_law_930 : decode cL_law 930 = .ok (.iconst 3, 1) := by decide +kernel
theorem dL_law_931 : decode cL_law 931 = .ok (.iadd, 1) := by decide +kernel
theorem dL_law_932 : decode cL_law 932 = .ok (.iaload, 1) := by decide +kernel
theorem dL_law_933 : decode cL_law 933 = .ok (.invokevirtual 113, 3) := by decide +kernel
theorem dL_law_936 : decode cL_law 936 = .ok (.aload_n 2, 1) := by decide +kernel
theorem dL_law_937 : decode cL_law 937 = .ok (.aload_n 0, 1) := by decide +kernel
theorem dL_law_938 : decode cL_law 938 = .ok (.iload 4, 2) := by decide +kernel
theorem dL_law_940 : decode cL_law 940 = .ok (.iconst 1, 1) := by decide +kernel
theorem dL_law_941 : decode cL_law 941 = .ok (.iadd, 1) := by decide +kernel
theorem dL_law_942 : decode cL_law 942 = .ok (.iaload, 1) := by decide +kernel
theorem dL_law_943 : decode cL_law 943 = .ok (.aload_n 0, 1) := by decide +kernel
theorem dL_law_944 : decode cL_law 944 = .ok (.iload 4, 2) := by decide +kernel
theorem dL_law_946 : decode cL_law 946 = .ok (.iconst 2, 1) := by decide +kernel
theorem dL_law_947 : decode cL_law 947 = .ok (.iadd, 1) := by decide +kernel
theorem dL_law_948 : decode cL_law 948 = .ok (.iaload, 1) := by decide +kernel
theorem dL_law_949 : decode cL_law 949 = .ok (.aload_n 0, 1) := by decide +kernel
theorem dL_law_950 : decode cL_law 950 = .ok (.iload 4, 2) := by decide +kernel
theorem dL_law_952 : decode cL_law 952 = .ok (.iconst 3, 1) := by decide +kernel
theorem dL_law_953 : decode cL_law 953 = .ok (.iadd, 1) := by decide +kernel
theorem dL_law_954 : decode cL_law 954 = .ok (.iaload, 1) := by decide +kernel
theorem dL_law_955 : decode cL_law 955 = .ok (.invokevirtual 116, 3) := by decide +kernel
theorem dL_law_958 : decode cL_law 958 = .ok (.if_icmp .eq 592, 3) := by decide +kernel
theorem dL_law_961 : decode cL_law 961 = .ok (.iconst 0, 1) := by decide +kernel
theorem dL_law_962 : decode cL_law 962 = .ok (.ireturn, 1) := by decide +kernel
theorem dL_law_963 : decode cL_law 963 = .ok (.aload_n 1, 1) := by decide +kernel
theorem dL_law_964 : decode cL_law 964 = .ok (.aload_n 0, 1) := by decide +kernel
theorem dL_law_965 : decode cL_law 965 = .ok (.iload 4, 2) := by decide +kernel
theorem dL_law_967 : decode cL_law 967 = .ok (.iconst 1, 1) := by decide +kernel
theorem dL_law_968 : decode cL_law 968 = .ok (.iadd, 1) := by decide +kernel
theorem dL_law_969 : decode cL_law 969 = .ok (.iaload, 1) := by decide +kernel
theorem dL_law_970 : decode cL_law 970 = .ok (.aload_n 0, 1) := by decide +kernel
theorem dL_law_971 : decode cL_law 971 = .ok (.iload 4, 2) := by decide +kernel
theorem dL_law_973 : decode cL_law 973 = .ok (.iconst 2, 1) := by decide +kernel
theorem dL_law_974 : decode cL_law 974 = .ok (.iadd, 1) := by decide +kernel
theorem dL_law_975 : decode cL_law 975 = .ok (.iaload, 1) := by decide +kernel
theorem dL_law_976 : decode cL_law 976 = .ok (.aload_n 0, 1) := by decide +kernel
theorem dL_law_977 : decode cL_law 977 = .ok (.iload 4, 2) := by decide +kernel
theorem dL_law_979 : decode cL_law 979 = .ok (.iconst 3, 1) := by decide +kernel
theorem dL_law_980 : decode cL_law 980 = .ok (.iadd, 1) := by decide +kernel
theorem dL_law_981 : decode cL_law 981 = .ok (.iaload, 1) := by decide +kernel
theorem dL_law_982 : decode cL_law 982 = .ok (.aload_n 0, 1) := by decide +kernel
theorem dL_law_983 : decode cL_law 983 = .ok (.iload 4, 2) := by decide +kernel
theorem dL_law_985 : decode cL_law 985 = .ok (.iconst 4, 1) := by decide +kernel
theorem dL_law_986 : decode cL_law 986 = .ok (.iadd, 1) := by decide +kernel
theorem dL_law_987 : decode cL_law 987 = .ok (.iaload, 1) := by decide +kernel
theorem dL_law_988 : decode cL_law 988 = .ok (.invokevirtual 117, 3) := by decide +kernel
theorem dL_law_991 : decode cL_law 991 = .ok (.aload_n 2, 1) := by decide +kernel
theorem dL_law_992 : decode cL_law 992 = .ok (.aload_n 0, 1) := by decide +kernel
theorem dL_law_993 : decode cL_law 993 = .ok (.iload 4, 2) := by decide +kernel
theorem dL_law_995 : decode cL_law 995 = .ok (.iconst 1, 1) := by decide +kernel
theorem dL_law_996 : decode cL_law 996 = .ok (.iadd, 1) := by decide +kernel
theorem dL_law_997 : decode cL_law 997 = .ok (.iaload, 1) := by decide +kernel
theorem dL_law_998 : decode cL_law 998 = .ok (.aload_n 0, 1) := by decide +kernel
theorem dL_law_999 : decode cL_law 999 = .ok (.iload 4, 2) := by decide +kernel
theorem dL_law_1001 : decode cL_law 1001 = .ok (.iconst 2, 1) := by decide +kernel
theorem dL_law_1002 : decode cL_law 1002 = .ok (.iadd, 1) := by decide +kernel
theorem dL_law_1003 : decode cL_law 1003 = .ok (.iaload, 1) := by decide +kernel
theorem dL_law_1004 : decode cL_law 1004 = .ok (.aload_n 0, 1) := by decide +kernel
theorem dL_law_1005 : decode cL_law 1005 = .ok (.iload 4, 2) := by decide +kernel
theorem dL_law_1007 : decode cL_law 1007 = .ok (.iconst 3, 1) := by decide +kernel
theorem dL_law_1008 : decode cL_law 1008 = .ok (.iadd, 1) := by decide +kernel
theorem dL_law_1009 : decode cL_law 1009 = .ok (.iaload, 1) := by decide +kernel
theorem dL_law_1010 : decode cL_law 1010 = .ok (.aload_n 0, 1) := by decide +kernel
theorem dL_law_1011 : decode cL_law 1011 = .ok (.iload 4, 2) := by decide +kernel
theorem dL_law_1013 : decode cL_law 1013 = .ok (.iconst 4, 1) := by decide +kernel
theorem dL_law_1014 : decode cL_law 1014 = .ok (.iadd, 1) := by decide +kernel
theorem dL_law_1015 : decode cL_law 1015 = .ok (.iaload, 1) := by decide +kernel
theorem dL_law_1016 : decode cL_law 1016 = .ok (.invokevirtual 121, 3) := by decide +kernel
theorem dL_law_1019 : decode cL_law 1019 = .ok (.lcmp, 1) := by decide +kernel
theorem dL_law_1020 : decode cL_law 1020 = .ok (.ifCond .eq 530, 3) := by decide +kernel
theorem dL_law_1023 : decode cL_law 1023 = .ok (.iconst 0, 1) := by decide +kernel
theorem dL_law_1024 : decode cL_law 1024 = .ok (.ireturn, 1) := by decide +kernel
theorem dL_law_1025 : decode cL_law 1025 = .ok (.aload_n 1, 1) := by decide +kernel
theorem dL_law_1026 : decode cL_law 1026 = .ok (.aload_n 0, 1) := by decide +kernel
theorem dL_law_1027 : decode cL_law 1027 = .ok (.iload 4, 2) := by decide +kernel
theorem dL_law_1029 : decode cL_law 1029 = .ok (.iconst 1, 1) := by decide +kernel
theorem dL_law_1030 : decode cL_law 1030 = .ok (.iadd, 1) := by decide +kernel
theorem dL_law_1031 : decode cL_law 1031 = .ok (.iaload, 1) := by decide +kernel
theorem dL_law_1032 : decode cL_law 1032 = .ok (.invokevirtual 122, 3) := by decide +kernel
theorem dL_law_1035 : decode cL_law 1035 = .ok (.aload_n 2, 1) := by decide +kernel
theorem dL_law_1036 : decode cL_law 1036 = .ok (.aload_n 0, 1) := by decide +kernel
theorem dL_law_1037 : decode cL_law 1037 = .ok (.iload 4, 2) := by decide +kernel
theorem dL_law_1039 : decode cL_law 1039 = .ok (.iconst 1, 1) := by decide +kernel
theorem dL_law_1040 : decode cL_law 1040 = .ok (.iadd, 1) := by decide +kernel
theorem dL_law_1041 : decode cL_law 1041 = .ok (.iaload, 1) := by decide +kernel
theorem dL_law_1042 : decode cL_law 1042 = .ok (.invokevirtual 126, 3) := by decide +kernel
theorem dL_law_1045 : decode cL_law 1045 = .ok (.lcmp, 1) := by decide +kernel
theorem dL_law_1046 : decode cL_law 1046 = .ok (.ifCond .eq 504, 3) := by decide +kernel
theorem dL_law_1049 : decode cL_law 1049 = .ok (.iconst 0, 1) := by decide +kernel
theorem dL_law_1050 : decode cL_law 1050 = .ok (.ireturn, 1) := by decide +kernel
theorem dL_law_1051 : decode cL_law 1051 = .ok (.aload_n 1, 1) := by decide +kernel
theorem dL_law_1052 : decode cL_law 1052 = .ok (.aload_n 0, 1) := by decide +kernel
theorem dL_law_1053 : decode cL_law 1053 = .ok (.iload 4, 2) := by decide +kernel
theorem dL_law_1055 : decode cL_law 1055 = .ok (.iconst 1, 1) := by decide +kernel
theorem dL_law_1056 : decode cL_law 1056 = .ok (.iadd, 1) := by decide +kernel
theorem dL_law_1057 : decode cL_law 1057 = .ok (.iaload, 1) := by decide +kernel
theorem dL_law_1058 : decode cL_law 1058 = .ok (.invokevirtual 127, 3) := by decide +kernel
theorem dL_law_1061 : decode cL_law 1061 = .ok (.aload_n 2, 1) := by decide +kernel
theorem dL_law_1062 : decode cL_law 1062 = .ok (.aload_n 0, 1) := by decide +kernel
theorem dL_law_1063 : decode cL_law 1063 = .ok (.iload 4, 2) := by decide +kernel
theorem dL_law_1065 : decode cL_law 1065 = .ok (.iconst 1, 1) := by decide +kernel
theorem dL_law_1066 : decode cL_law 1066 = .ok (.iadd, 1) := by decide +kernel
theorem dL_law_1067 : decode cL_law 1067 = .ok (.iaload, 1) := by decide +kernel
theorem dL_law_1068 : decode cL_law 1068 = .ok (.invokevirtual 130, 3) := by decide +kernel
theorem dL_law_1071 : decode cL_law 1071 = .ok (.if_icmp .eq 479, 3) := by decide +kernel
theorem dL_law_1074 : decode cL_law 1074 = .ok (.iconst 0, 1) := by decide +kernel
theorem dL_law_1075 : decode cL_law 1075 = .ok (.ireturn, 1) := by decide +kernel
theorem dL_law_1076 : decode cL_law 1076 = .ok (.aload_n 1, 1) := by decide +kernel
theorem dL_law_1077 : decode cL_law 1077 = .ok (.aload_n 0, 1) := by decide +kernel
theorem dL_law_1078 : decode cL_law 1078 = .ok (.iload 4, 2) := by decide +kernel
theorem dL_law_1080 : decode cL_law 1080 = .ok (.iconst 1, 1) := by decide +kernel
theorem dL_law_1081 : decode cL_law 1081 = .ok (.iadd, 1) := by decide +kernel
theorem dL_law_1082 : decode cL_law 1082 = .ok (.iaload, 1) := by decide +kernel
theorem dL_law_1083 : decode cL_law 1083 = .ok (.invokevirtual 131, 3) := by decide +kernel
theorem dL_law_1086 : decode cL_law 1086 = .ok (.aload_n 2, 1) := by decide +kernel
theorem dL_law_1087 : decode cL_law 1087 = .ok (.aload_n 0, 1) := by decide +kernel
theorem dL_law_1088 : decode cL_law 1088 = .ok (.iload 4, 2) := by decide +kernel
theorem dL_law_1090 : decode cL_law 1090 = .ok (.iconst 1, 1) := by decide +kernel
theorem dL_law_1091 : decode cL_law 1091 = .ok (.iadd, 1) := by decide +kernel
theorem dL_law_1092 : decode cL_law 1092 = .ok (.iaload, 1) := by decide +kernel
theorem dL_law_1093 : decode cL_law 1093 = .ok (.invokevirtual 134, 3) := by decide +kernel
theorem dL_law_1096 : decode cL_law 1096 = .ok (.if_icmp .eq 454, 3) := by decide +kernel
theorem dL_law_1099 : decode cL_law 1099 = .ok (.iconst 0, 1) := by decide +kernel
theorem dL_law_1100 : decode cL_law 1100 = .ok (.ireturn, 1) := by decide +kernel
theorem dL_law_1101 : decode cL_law 1101 = .ok (.aload_n 1, 1) := by decide +kernel
theorem dL_law_1102 : decode cL_law 1102 = .ok (.aload_n 0, 1) := by decide +kernel
theorem dL_law_1103 : decode cL_law 1103 = .ok (.iload 4, 2) := by decide +kernel
theorem dL_law_1105 : decode cL_law 1105 = .ok (.iconst 1, 1) := by decide +kernel
theorem dL_law_1106 : decode cL_law 1106 = .ok (.iadd, 1) := by decide +kernel
theorem dL_law_1107 : decode cL_law 1107 = .ok (.iaload, 1) := by decide +kernel
theorem dL_law_1108 : decode cL_law 1108 = .ok (.aload_n 0, 1) := by decide +kernel
theorem dL_law_1109 : decode cL_law 1109 = .ok (.iload 4, 2) := by decide +kernel
theorem dL_law_1111 : decode cL_law 1111 = .ok (.iconst 2, 1) := by decide +kernel
theorem dL_law_1112 : decode cL_law 1112 = .ok (.iadd, 1) := by decide +kernel
theorem dL_law_1113 : decode cL_law 1113 = .ok (.iaload, 1) := by decide +kernel
theorem dL_law_1114 : decode cL_law 1114 = .ok (.aload_n 0, 1) := by decide +kernel
theorem dL_law_1115 : decode cL_law 1115 = .ok (.iload 4, 2) := by decide +kernel
theorem dL_law_1117 : decode cL_law 1117 = .ok (.iconst 3, 1) := by decide +kernel
theorem dL_law_1118 : decode cL_law 1118 = .ok (.iadd, 1) := by decide +kernel
theorem dL_law_1119 : decode cL_law 1119 = .ok (.iaload, 1) := by decide +kernel
theorem dL_law_1120 : decode cL_law 1120 = .ok (.invokevirtual 135, 3) := by decide +kernel
theorem dL_law_1123 : decode cL_law 1123 = .ok (.aload_n 2, 1) := by decide +kernel
theorem dL_law_1124 : decode cL_law 1124 = .ok (.aload_n 0, 1) := by decide +kernel
theorem dL_law_1125 : decode cL_law 1125 = .ok (.iload 4, 2) := by decide +kernel
theorem dL_law_1127 : decode cL_law 1127 = .ok (.iconst 1, 1) := by decide +kernel
theorem dL_law_1128 : decode cL_law 1128 = .ok (.iadd, 1) := by decide +kernel
theorem dL_law_1129 : decode cL_law 1129 = .ok (.iaload, 1) := by decide +kernel
theorem dL_law_1130 : decode cL_law 1130 = .ok (.aload_n 0, 1) := by decide +kernel
theorem dL_law_1131 : decode cL_law 1131 = .ok (.iload 4, 2) := by decide +kernel
theorem dL_law_1133 : decode cL_law 1133 = .ok (.iconst 2, 1) := by decide +kernel
theorem dL_law_1134 : decode cL_law 1134 = .ok (.iadd, 1) := by decide +kernel
theorem dL_law_1135 : decode cL_law 1135 = .ok (.iaload, 1) := by decide +kernel
theorem dL_law_1136 : decode cL_law 1136 = .ok (.aload_n 0, 1) := by decide +kernel
theorem dL_law_1137 : decode cL_law 1137 = .ok (.iload 4, 2) := by decide +kernel
theorem dL_law_1139 : decode cL_law 1139 = .ok (.iconst 3, 1) := by decide +kernel
theorem dL_law_1140 : decode cL_law 1140 = .ok (.iadd, 1) := by decide +kernel
theorem dL_law_1141 : decode cL_law 1141 = .ok (.iaload, 1) := by decide +kernel
theorem dL_law_1142 : decode cL_law 1142 = .ok (.invokevirtual 138, 3) := by decide +kernel
theorem dL_law_1145 : decode cL_law 1145 = .ok (.if_icmp .eq 405, 3) := by decide +kernel
theorem dL_law_1148 : decode cL_law 1148 = .ok (.iconst 0, 1) := by decide +kernel
theorem dL_law_1149 : decode cL_law 1149 = .ok (.ireturn, 1) := by decide +kernel
theorem dL_law_1150 : decode cL_law 1150 = .ok (.aload_n 1, 1) := by decide +kernel
theorem dL_law_1151 : decode cL_law 1151 = .ok (.invokevirtual 139, 3) := by decide +kernel
theorem dL_law_1154 : decode cL_law 1154 = .ok (.aload_n 2, 1) := by decide +kernel
theorem dL_law_1155 : decode cL_law 1155 = .ok (.invokevirtual 142, 3) := by decide +kernel
theorem dL_law_1158 : decode cL_law 1158 = .ok (.if_icmp .eq 392, 3) := by decide +kernel
theorem dL_law_1161 : decode cL_law 1161 = .ok (.iconst 0, 1) := by decide +kernel
theorem dL_law_1162 : decode cL_law 1162 = .ok (.ireturn, 1) := by decide +kernel
theorem dL_law_1163 : decode cL_law 1163 = .ok (.aload_n 1, 1) := by decide +kernel
theorem dL_law_1164 : decode cL_law 1164 = .ok (.invokevirtual 143, 3) := by decide +kernel
theorem dL_law_1167 : decode cL_law 1167 = .ok (.aload_n 2, 1) := by decide +kernel
theorem dL_law_1168 : decode cL_law 1168 = .ok (.invokevirtual 146, 3) := by decide +kernel
theorem dL_law_1171 : decode cL_law 1171 = .ok (.if_icmp .eq 379, 3) := by decide +kernel
theorem dL_law_1174 : decode cL_law 1174 = .ok (.iconst 0, 1) := by decide +kernel
theorem dL_law_1175 : decode cL_law 1175 = .ok (.ireturn, 1) := by decide +kernel
theorem dL_law_1176 : decode cL_law 1176 = .ok (.aload_n 1, 1) := by decide +kernel
theorem dL_law_1177 : decode cL_law 1177 = .ok (.aload_n 0, 1) := by decide +kernel
theorem dL_law_1178 : decode cL_law 1178 = .ok (.iload 4, 2) := by decide +kernel
theorem dL_law_1180 : decode cL_law 1180 = .ok (.iconst 1, 1) := by decide +kernel
theorem dL_law_1181 : decode cL_law 1181 = .ok (.iadd, 1) := by decide +kernel
theorem dL_law_1182 : decode cL_law 1182 = .ok (.iaload, 1) := by decide +kernel
theorem dL_law_1183 : decode cL_law 1183 = .ok (.invokevirtual 147, 3) := by decide +kernel
theorem dL_law_1186 : decode cL_law 1186 = .ok (.aload_n 2, 1) := by decide +kernel
theorem dL_law_1187 : decode cL_law 1187 = .ok (.aload_n 0, 1) := by decide +kernel
theorem dL_law_1188 : decode cL_law 1188 = .ok (.iload 4, 2) := by decide +kernel
theorem dL_law_1190 : decode cL_law 1190 = .ok (.iconst 1, 1) := by decide +kernel
theorem dL_law_1191 : decode cL_law 1191 = .ok (.iadd, 1) := by decide +kernel
theorem dL_law_1192 : decode cL_law 1192 = .ok (.iaload, 1) := by decide +kernel
theorem dL_law_1193 : decode cL_law 1193 = .ok (.invokevirtual 150, 3) := by decide +kernel
theorem dL_law_1196 : decode cL_law 1196 = .ok (.if_icmp .eq 354, 3) := by decide +kernel
theorem dL_law_1199 : decode cL_law 1199 = .ok (.iconst 0, 1) := by decide +kernel
theorem dL_law_1200 : decode cL_law 1200 = .ok (.ireturn, 1) := by decide +kernel
theorem dL_law_1201 : decode cL_law 1201 = .ok (.aload_n 1, 1) := by decide +kernel
theorem dL_law_1202 : decode cL_law 1202 = .ok (.aload_n 0, 1) := by decide +kernel
theorem dL_law_1203 : decode cL_law 1203 = .ok (.iload 4, 2) := by decide +kernel
theorem dL_law_1205 : decode cL_law 1205 = .ok (.iconst 1, 1) := by decide +kernel
theorem dL_law_1206 : decode cL_law 1206 = .ok (.iadd, 1) := by decide +kernel
theorem dL_law_1207 : decode cL_law 1207 = .ok (.iaload, 1) := by decide +kernel
theorem dL_law_1208 : decode cL_law 1208 = .ok (.aload_n 0, 1) := by decide +kernel
theorem dL_law_1209 : decode cL_law 1209 = .ok (.iload 4, 2) := by decide +kernel
theorem dL_law_1211 : decode cL_law 1211 = .ok (.iconst 2, 1) := by decide +kernel
theorem dL_law_1212 : decode cL_law 1212 = .ok (.iadd, 1) := by decide +kernel
theorem dL_law_1213 : decode cL_law 1213 = .ok (.iaload, 1) := by decide +kernel
theorem dL_law_1214 : decode cL_law 1214 = .ok (.aload_n 0, 1) := by decide +kernel
theorem dL_law_1215 : decode cL_law 1215 = .ok (.iload 4, 2) := by decide +kernel
theorem dL_law_1217 : decode cL_law 1217 = .ok (.iconst 3, 1) := by decide +kernel
theorem dL_law_1218 : decode cL_law 1218 = .ok (.iadd, 1) := by decide +kernel
theorem dL_law_1219 : decode cL_law 1219 = .ok (.iaload, 1) := by decide +kernel
theorem dL_law_1220 : decode cL_law 1220 = .ok (.aload_n 0, 1) := by decide +kernel
theorem dL_law_1221 : decode cL_law 1221 = .ok (.iload 4, 2) := by decide +kernel
theorem dL_law_1223 : decode cL_law 1223 = .ok (.iconst 4, 1) := by decide +kernel
theorem dL_law_1224 : decode cL_law 1224 = .ok (.iadd, 1) := by decide +kernel
theorem dL_law_1225 : decode cL_law 1225 = .ok (.iaload, 1) := by decide +kernel
theorem dL_law_1226 : decode cL_law 1226 = .ok (.invokevirtual 151, 3) := by decide +kernel
theorem dL_law_1229 : decode cL_law 1229 = .ok (.aload_n 2, 1) := by decide +kernel
theorem dL_law_1230 : decode cL_law 1230 = .ok (.aload_n 0, 1) := by decide +kernel
theorem dL_law_1231 : decode cL_law 1231 = .ok (.iload 4, 2) := by decide +kernel
theorem dL_law_1233 : decode cL_law 1233 = .ok (.iconst 1, 1) := by decide +kernel
theorem dL_law_1234 : decode cL_law 1234 = .ok (.iadd, 1) := by decide +kernel
theorem dL_law_1235 : decode cL_law 1235 = .ok (.iaload, 1) := by decide +kernel
theorem dL_law_1236 : decode cL_law 1236 = .ok (.aload_n 0, 1) := by decide +kernel
theorem dL_law_1237 : decode cL_law 1237 = .ok (.iload 4, 2) := by decide +kernel
theorem dL_law_1239 : decode cL_law 1239 = .ok (.iconst 2, 1) := by decide +kernel
theorem dL_law_1240 : decode cL_law 1240 = .ok (.iadd, 1) := by decide +kernel
theorem dL_law_1241 : decode cL_law 1241 = .ok (.iaload, 1) := by decide +kernel
theorem dL_law_1242 : decode cL_law 1242 = .ok (.aload_n 0, 1) := by decide +kernel
theorem dL_law_1243 : decode cL_law 1243 = .ok (.iload 4, 2) := by decide +kernel
theorem dL_law_1245 : decode cL_law 1245 = .ok (.iconst 3, 1) := by decide +kernel
theorem dL_law_1246 : decode cL_law 1246 = .ok (.iadd, 1) := by decide +kernel
theorem dL_law_1247 : decode cL_law 1247 = .ok (.iaload, 1) := by decide +kernel
theorem dL_law_1248 : decode cL_law 1248 = .ok (.aload_n 0, 1) := by decide +kernel
theorem dL_law_1249 : decode cL_law 1249 = .ok (.iload 4, 2) := by decide +kernel
theorem dL_law_1251 : decode cL_law 1251 = .ok (.iconst 4, 1) := by decide +kernel
theorem dL_law_1252 : decode cL_law 1252 = .ok (.iadd, 1) := by decide +kernel
theorem dL_law_1253 : decode cL_law 1253 = .ok (.iaload, 1) := by decide +kernel
theorem dL_law_1254 : decode cL_law 1254 = .ok (.invokevirtual 155, 3) := by decide +kernel
theorem dL_law_1257 : decode cL_law 1257 = .ok (.if_icmp .eq 293, 3) := by decide +kernel
theorem dL_law_1260 : decode cL_law 1260 = .ok (.iconst 0, 1) := by decide +kernel
theorem dL_law_1261 : decode cL_law 1261 = .ok (.ireturn, 1) := by decide +kernel
theorem dL_law_1262 : decode cL_law 1262 = .ok (.aload_n 1, 1) := by decide +kernel
theorem dL_law_1263 : decode cL_law 1263 = .ok (.aload_n 0, 1) := by decide +kernel
theorem dL_law_1264 : decode cL_law 1264 = .ok (.iload 4, 2) := by decide +kernel
theorem dL_law_1266 : decode cL_law 1266 = .ok (.iconst 1, 1) := by decide +kernel
theorem dL_law_1267 : decode cL_law 1267 = .ok (.iadd, 1) := by decide +kernel
theorem dL_law_1268 : decode cL_law 1268 = .ok (.iaload, 1) := by decide +kernel
theorem dL_law_1269 : decode cL_law 1269 = .ok (.aload_n 0, 1) := by decide +kernel
theorem dL_law_1270 : decode cL_law 1270 = .ok (.iload 4, 2) := by decide +kernel
theorem dL_law_1272 : decode cL_law 1272 = .ok (.iconst 2, 1) := by decide +kernel
theorem dL_law_1273 : decode cL_law 1273 = .ok (.iadd, 1) := by decide +kernel
theorem dL_law_1274 : decode cL_law 1274 = .ok (.iaload, 1) := by decide +kernel
theorem dL_law_1275 : decode cL_law 1275 = .ok (.aload_n 0, 1) := by decide +kernel
theorem dL_law_1276 : decode cL_law 1276 = .ok (.iload 4, 2) := by decide +kernel
theorem dL_law_1278 : decode cL_law 1278 = .ok (.iconst 3, 1) := by decide +kernel
theorem dL_law_1279 : decode cL_law 1279 = .ok (.iadd, 1) := by decide +kernel
theorem dL_law_1280 : decode cL_law 1280 = .ok (.iaload, 1) := by decide +kernel
theorem dL_law_1281 : decode cL_law 1281 = .ok (.invokevirtual 156, 3) := by decide +kernel
theorem dL_law_1284 : decode cL_law 1284 = .ok (.aload_n 2, 1) := by decide +kernel
theorem dL_law_1285 : decode cL_law 1285 = .ok (.aload_n 0, 1) := by decide +kernel
theorem dL_law_1286 : decode cL_law 1286 = .ok (.iload 4, 2) := by decide +kernel
theorem dL_law_1288 : decode cL_law 1288 = .ok (.iconst 1, 1) := by decide +kernel
theorem dL_law_1289 : decode cL_law 1289 = .ok (.iadd, 1) := by decide +kernel
theorem dL_law_1290 : decode cL_law 1290 = .ok (.iaload, 1) := by decide +kernel
theorem dL_law_1291 : decode cL_law 1291 = .ok (.aload_n 0, 1) := by decide +kernel
theorem dL_law_1292 : decode cL_law 1292 = .ok (.iload 4, 2) := by decide +kernel
theorem dL_law_1294 : decode cL_law 1294 = .ok (.iconst 2, 1) := by decide +kernel
theorem dL_law_1295 : decode cL_law 1295 = .ok (.iadd, 1) := by decide +kernel
theorem dL_law_1296 : decode cL_law 1296 = .ok (.iaload, 1) := by decide +kernel
theorem dL_law_1297 : decode cL_law 1297 = .ok (.aload_n 0, 1) := by decide +kernel
theorem dL_law_1298 : decode cL_law 1298 = .ok (.iload 4, 2) := by decide +kernel
theorem dL_law_1300 : decode cL_law 1300 = .ok (.iconst 3, 1) := by decide +kernel
theorem dL_law_1301 : decode cL_law 1301 = .ok (.iadd, 1) := by decide +kernel
theorem dL_law_1302 : decode cL_law 1302 = .ok (.iaload, 1) := by decide +kernel
theorem dL_law_1303 : decode cL_law 1303 = .ok (.invokevirtual 159, 3) := by decide +kernel
theorem dL_law_1306 : decode cL_law 1306 = .ok (.if_icmp .eq 244, 3) := by decide +kernel
theorem dL_law_1309 : decode cL_law 1309 = .ok (.iconst 0, 1) := by decide +kernel
theorem dL_law_1310 : decode cL_law 1310 = .ok (.ireturn, 1) := by decide +kernel
theorem dL_law_1311 : decode cL_law 1311 = .ok (.aload_n 1, 1) := by decide +kernel
theorem dL_law_1312 : decode cL_law 1312 = .ok (.aload_n 0, 1) := by decide +kernel
theorem dL_law_1313 : decode cL_law 1313 = .ok (.iload 4, 2) := by decide +kernel
theorem dL_law_1315 : decode cL_law 1315 = .ok (.iconst 1, 1) := by decide +kernel
theorem dL_law_1316 : decode cL_law 1316 = .ok (.iadd, 1) := by decide +kernel
theorem dL_law_1317 : decode cL_law 1317 = .ok (.iaload, 1) := by decide +kernel
theorem dL_law_1318 : decode cL_law 1318 = .ok (.aload_n 0, 1) := by decide +kernel
theorem dL_law_1319 : decode cL_law 1319 = .ok (.iload 4, 2) := by decide +kernel
theorem dL_law_1321 : decode cL_law 1321 = .ok (.iconst 2, 1) := by decide +kernel
theorem dL_law_1322 : decode cL_law 1322 = .ok (.iadd, 1) := by decide +kernel
theorem dL_law_1323 : decode cL_law 1323 = .ok (.iaload, 1) := by decide +kernel
theorem dL_law_1324 : decode cL_law 1324 = .ok (.aload_n 0, 1) := by decide +kernel
theorem dL_law_1325 : decode cL_law 1325 = .ok (.iload 4, 2) := by decide +kernel
theorem dL_law_1327 : decode cL_law 1327 = .ok (.iconst 3, 1) := by decide +kernel
theorem dL_law_1328 : decode cL_law 1328 = .ok (.iadd, 1) := by decide +kernel
theorem dL_law_1329 : decode cL_law 1329 = .ok (.iaload, 1) := by decide +kernel
theorem dL_law_1330 : decode cL_law 1330 = .ok (.invokevirtual 160, 3) := by decide +kernel
theorem dL_law_1333 : decode cL_law 1333 = .ok (.aload_n 2, 1) := by decide +kernel
theorem dL_law_1334 : decode cL_law 1334 = .ok (.aload_n 0, 1) := by decide +kernel
theorem dL_law_1335 : decode cL_law 1335 = .ok (.iload 4, 2) := by decide +kernel
theorem dL_law_1337 : decode cL_law 1337 = .ok (.iconst 1, 1) := by decide +kernel
theorem dL_law_1338 : decode cL_law 1338 = .ok (.iadd, 1) := by decide +kernel
theorem dL_law_1339 : decode cL_law 1339 = .ok (.iaload, 1) := by decide +kernel
theorem dL_law_1340 : decode cL_law 1340 = .ok (.aload_n 0, 1) := by decide +kernel
theorem dL_law_1341 : decode cL_law 1341 = .ok (.iload 4, 2) := by decide +kernel
theorem dL_law_1343 : decode cL_law 1343 = .ok (.iconst 2, 1) := by decide +kernel
theorem dL_law_1344 : decode cL_law 1344 = .ok (.iadd, 1) := by decide +kernel
theorem dL_law_1345 : decode cL_law 1345 = .ok (.iaload, 1) := by decide +kernel
theorem dL_law_1346 : decode cL_law 1346 = .ok (.aload_n 0, 1) := by decide +kernel
theorem dL_law_1347 : decode cL_law 1347 = .ok (.iload 4, 2) := by decide +kernel
theorem dL_law_1349 : decode cL_law 1349 = .ok (.iconst 3, 1) := by decide +kernel
theorem dL_law_1350 : decode cL_law 1350 = .ok (.iadd, 1) := by decide +kernel
theorem dL_law_1351 : decode cL_law 1351 = .ok (.iaload, 1) := by decide +kernel
theorem dL_law_1352 : decode cL_law 1352 = .ok (.invokevirtual 163, 3) := by decide +kernel
theorem dL_law_1355 : decode cL_law 1355 = .ok (.if_icmp .eq 195, 3) := by decide +kernel
theorem dL_law_1358 : decode cL_law 1358 = .ok (.iconst 0, 1) := by decide +kernel
theorem dL_law_1359 : decode cL_law 1359 = .ok (.ireturn, 1) := by decide +kernel
theorem dL_law_1360 : decode cL_law 1360 = .ok (.aload_n 1, 1) := by decide +kernel
theorem dL_law_1361 : decode cL_law 1361 = .ok (.aload_n 0, 1) := by decide +kernel
theorem dL_law_1362 : decode cL_law 1362 = .ok (.iload 4, 2) := by decide +kernel
theorem dL_law_1364 : decode cL_law 1364 = .ok (.iconst 1, 1) := by decide +kernel
theorem dL_law_1365 : decode cL_law 1365 = .ok (.iadd, 1) := by decide +kernel
theorem dL_law_1366 : decode cL_law 1366 = .ok (.iaload, 1) := by decide +kernel
theorem dL_law_1367 : decode cL_law 1367 = .ok (.aload_n 0, 1) := by decide +kernel
theorem dL_law_1368 : decode cL_law 1368 = .ok (.iload 4, 2) := by decide +kernel
theorem dL_law_1370 : decode cL_law 1370 = .ok (.iconst 2, 1) := by decide +kernel
theorem dL_law_1371 : decode cL_law 1371 = .ok (.iadd, 1) := by decide +kernel
theorem dL_law_1372 : decode cL_law 1372 = .ok (.iaload, 1) := by decide +kernel
theorem dL_law_1373 : decode cL_law 1373 = .ok (.aload_n 3, 1) := by decide +kernel
theorem dL_law_1374 : decode cL_law 1374 = .ok (.invokestatic 164, 3) := by decide +kernel
theorem dL_law_1377 : decode cL_law 1377 = .ok (.istore 5, 2) := by decide +kernel
theorem dL_law_1379 : decode cL_law 1379 = .ok (.aload_n 2, 1) := by decide +kernel
theorem dL_law_1380 : decode cL_law 1380 = .ok (.aload_n 0, 1) := by decide +kernel
theorem dL_law_1381 : decode cL_law 1381 = .ok (.iload 4, 2) := by decide +kernel
theorem dL_law_1383 : decode cL_law 1383 = .ok (.iconst 1, 1) := by decide +kernel
theorem dL_law_1384 : decode cL_law 1384 = .ok (.iadd, 1) := by decide +kernel
theorem dL_law_1385 : decode cL_law 1385 = .ok (.iaload, 1) := by decide +kernel
theorem dL_law_1386 : decode cL_law 1386 = .ok (.aload_n 0, 1) := by decide +kernel
theorem dL_law_1387 : decode cL_law 1387 = .ok (.iload 4, 2) := by decide +kernel
theorem dL_law_1389 : decode cL_law 1389 = .ok (.iconst 2, 1) := by decide +kernel
theorem dL_law_1390 : decode cL_law 1390 = .ok (.iadd, 1) := by decide +kernel
theorem dL_law_1391 : decode cL_law 1391 = .ok (.iaload, 1) := by decide +kernel
theorem dL_law_1392 : decode cL_law 1392 = .ok (.invokevirtual 169, 3) := by decide +kernel
theorem dL_law_1395 : decode cL_law 1395 = .ok (.lstore 6, 2) := by decide +kernel
theorem dL_law_1397 : decode cL_law 1397 = .ok (.aload_n 2, 1) := by decide +kernel
theorem dL_law_1398 : decode cL_law 1398 = .ok (.invokevirtual 170, 3) := by decide +kernel
theorem dL_law_1401 : decode cL_law 1401 = .ok (.iload 5, 2) := by decide +kernel
theorem dL_law_1403 : decode cL_law 1403 = .ok (.if_icmp .eq 5, 3) := by decide +kernel
theorem dL_law_1406 : decode cL_law 1406 = .ok (.iconst 0, 1) := by decide +kernel
theorem dL_law_1407 : decode cL_law 1407 = .ok (.ireturn, 1) := by decide +kernel
theorem dL_law_1408 : decode cL_law 1408 = .ok (.iload 5, 2) := by decide +kernel
theorem dL_law_1410 : decode cL_law 1410 = .ok (.ifCond .ne 14, 3) := by decide +kernel
theorem dL_law_1413 : decode cL_law 1413 = .ok (.aload_n 3, 1) := by decide +kernel
theorem dL_law_1414 : decode cL_law 1414 = .ok (.iconst 0, 1) := by decide +kernel
theorem dL_law_1415 : decode cL_law 1415 = .ok (.laload, 1) := by decide +kernel
theorem dL_law_1416 : decode cL_law 1416 = .ok (.lload 6, 2) := by decide +kernel
theorem dL_law_1418 : decode cL_law 1418 = .ok (.lcmp, 1) := by decide +kernel
theorem dL_law_1419 : decode cL_law 1419 = .ok (.ifCond .eq 5, 3) := by decide +kernel
theorem dL_law_1422 : decode cL_law 1422 = .ok (.iconst 0, 1) := by decide +kernel
theorem dL_law_1423 : decode cL_law 1423 = .ok (.ireturn, 1) := by decide +kernel
theorem dL_law_1424 : decode cL_law 1424 = .ok (.goto 126, 3) := by decide +kernel
theorem dL_law_1427 : decode cL_law 1427 = .ok (.aload_n 1, 1) := by decide +kernel
theorem dL_law_1428 : decode cL_law 1428 = .ok (.aload_n 0, 1) := by decide +kernel
theorem dL_law_1429 : decode cL_law 1429 = .ok (.iload 4, 2) := by decide +kernel
theorem dL_law_1431 : decode cL_law 1431 = .ok (.iconst 1, 1) := by decide +kernel
theorem dL_law_1432 : decode cL_law 1432 = .ok (.iadd, 1) := by decide +kernel
theorem dL_law_1433 : decode cL_law 1433 = .ok (.iaload, 1) := by decide +kernel
theorem dL_law_1434 : decode cL_law 1434 = .ok (.aload_n 0, 1) := by decide +kernel
theorem dL_law_1435 : decode cL_law 1435 = .ok (.iload 4, 2) := by decide +kernel
theorem dL_law_1437 : decode cL_law 1437 = .ok (.iconst 2, 1) := by decide +kernel
theorem dL_law_1438 : decode cL_law 1438 = .ok (.iadd, 1) := by decide +kernel
theorem dL_law_1439 : decode cL_law 1439 = .ok (.iaload, 1) := by decide +kernel
theorem dL_law_1440 : decode cL_law 1440 = .ok (.aload_n 0, 1) := by decide +kernel
theorem dL_law_1441 : decode cL_law 1441 = .ok (.iload 4, 2) := by decide +kernel
theorem dL_law_1443 : decode cL_law 1443 = .ok (.iconst 3, 1) := by decide +kernel
theorem dL_law_1444 : decode cL_law 1444 = .ok (.iadd, 1) := by decide +kernel
theorem dL_law_1445 : decode cL_law 1445 = .ok (.iaload, 1) := by decide +kernel
theorem dL_law_1446 : decode cL_law 1446 = .ok (.aload_n 0, 1) := by decide +kernel
theorem dL_law_1447 : decode cL_law 1447 = .ok (.iload 4, 2) := by decide +kernel
theorem dL_law_1449 : decode cL_law 1449 = .ok (.iconst 4, 1) := by decide +kernel
theorem dL_law_1450 : decode cL_law 1450 = .ok (.iadd, 1) := by decide +kernel
theorem dL_law_1451 : decode cL_law 1451 = .ok (.iaload, 1) := by decide +kernel
theorem dL_law_1452 : decode cL_law 1452 = .ok (.aload_n 0, 1) := by decide +kernel
theorem dL_law_1453 : decode cL_law 1453 = .ok (.iload 4, 2) := by decide +kernel
theorem dL_law_1455 : decode cL_law 1455 = .ok (.iconst 5, 1) := by decide +kernel
theorem dL_law_1456 : decode cL_law 1456 = .ok (.iadd, 1) := by decide +kernel
theorem dL_law_1457 : decode cL_law 1457 = .ok (.iaload, 1) := by decide +kernel
theorem dL_law_1458 : decode cL_law 1458 = .ok (.invokevirtual 173, 3) := by decide +kernel
theorem dL_law_1461 : decode cL_law 1461 = .ok (.aload_n 2, 1) := by decide +kernel
theorem dL_law_1462 : decode cL_law 1462 = .ok (.aload_n 0, 1) := by decide +kernel
theorem dL_law_1463 : decode cL_law 1463 = .ok (.iload 4, 2) := by decide +kernel
theorem dL_law_1465 : decode cL_law 1465 = .ok (.iconst 1, 1) := by decide +kernel
theorem dL_law_1466 : decode cL_law 1466 = .ok (.iadd, 1) := by decide +kernel
theorem dL_law_1467 : decode cL_law 1467 = .ok (.iaload, 1) := by decide +kernel
theorem dL_law_1468 : decode cL_law 1468 = .ok (.aload_n 0, 1) := by decide +kernel
theorem dL_law_1469 : decode cL_law 1469 = .ok (.iload 4, 2) := by decide +kernel
theorem dL_law_1471 : decode cL_law 1471 = .ok (.iconst 2, 1) := by decide +kernel
theorem dL_law_1472 : decode cL_law 1472 = .ok (.iadd, 1) := by decide +kernel
theorem dL_law_1473 : decode cL_law 1473 = .ok (.iaload, 1) := by decide +kernel
theorem dL_law_1474 : decode cL_law 1474 = .ok (.aload_n 0, 1) := by decide +kernel
theorem dL_law_1475 : decode cL_law 1475 = .ok (.iload 4, 2) := by decide +kernel
theorem dL_law_1477 : decode cL_law 1477 = .ok (.iconst 3, 1) := by decide +kernel
theorem dL_law_1478 : decode cL_law 1478 = .ok (.iadd, 1) := by decide +kernel
theorem dL_law_1479 : decode cL_law 1479 = .ok (.iaload, 1) := by decide +kernel
theorem dL_law_1480 : decode cL_law 1480 = .ok (.aload_n 0, 1) := by decide +kernel
theorem dL_law_1481 : decode cL_law 1481 = .ok (.iload 4, 2) := by decide +kernel
theorem dL_law_1483 : decode cL_law 1483 = .ok (.iconst 4, 1) := by decide +kernel
theorem dL_law_1484 : decode cL_law 1484 = .ok (.iadd, 1) := by decide +kernel
theorem dL_law_1485 : decode cL_law 1485 = .ok (.iaload, 1) := by decide +kernel
theorem dL_law_1486 : decode cL_law 1486 = .ok (.aload_n 0, 1) := by decide +kernel
theorem dL_law_1487 : decode cL_law 1487 = .ok (.iload 4, 2) := by decide +kernel
theorem dL_law_1489 : decode cL_law 1489 = .ok (.iconst 5, 1) := by decide +kernel
theorem dL_law_1490 : decode cL_law 1490 = .ok (.iadd, 1) := by decide +kernel
theorem dL_law_1491 : decode cL_law 1491 = .ok (.iaload, 1) := by decide +kernel
theorem dL_law_1492 : decode cL_law 1492 = .ok (.invokevirtual 177, 3) := by decide +kernel
theorem dL_law_1495 : decode cL_law 1495 = .ok (.if_icmp .eq 55, 3) := by decide +kernel
theorem dL_law_1498 : decode cL_law 1498 = .ok (.iconst 0, 1) := by decide +kernel
theorem dL_law_1499 : decode cL_law 1499 = .ok (.ireturn, 1) := by decide +kernel
theorem dL_law_1500 : decode cL_law 1500 = .ok (.aload_n 1, 1) := by decide +kernel
theorem dL_law_1501 : decode cL_law 1501 = .ok (.aload_n 0, 1) := by decide +kernel
theorem dL_law_1502 : decode cL_law 1502 = .ok (.iload 4, 2) := by decide +kernel
theorem dL_law_1504 : decode cL_law 1504 = .ok (.iconst 1, 1) := by decide +kernel
theorem dL_law_1505 : decode cL_law 1505 = .ok (.iadd, 1) := by decide +kernel
theorem dL_law_1506 : decode cL_law 1506 = .ok (.iaload, 1) := by decide +kernel
theorem dL_law_1507 : decode cL_law 1507 = .ok (.invokevirtual 178, 3) := by decide +kernel
theorem dL_law_1510 : decode cL_law 1510 = .ok (.aload_n 2, 1) := by decide +kernel
theorem dL_law_1511 : decode cL_law 1511 = .ok (.aload_n 0, 1) := by decide +kernel
theorem dL_law_1512 : decode cL_law 1512 = .ok (.iload 4, 2) := by decide +kernel
theorem dL_law_1514 : decode cL_law 1514 = .ok (.iconst 1, 1) := by decide +kernel
theorem dL_law_1515 : decode cL_law 1515 = .ok (.iadd, 1) := by decide +kernel
theorem dL_law_1516 : decode cL_law 1516 = .ok (.iaload, 1) := by decide +kernel
theorem dL_law_1517 : decode cL_law 1517 = .ok (.invokevirtual 181, 3) := by decide +kernel
theorem dL_law_1520 : decode cL_law 1520 = .ok (.if_icmp .eq 30, 3) := by decide +kernel
theorem dL_law_1523 : decode cL_law 1523 = .ok (.iconst 0, 1) := by decide +kernel
theorem dL_law_1524 : decode cL_law 1524 = .ok (.ireturn, 1) := by decide +kernel
theorem dL_law_1525 : decode cL_law 1525 = .ok (.aload_n 1, 1) := by decide +kernel
theorem dL_law_1526 : decode cL_law 1526 = .ok (.aload_n 0, 1) := by decide +kernel
theorem dL_law_1527 : decode cL_law 1527 = .ok (.iload 4, 2) := by decide +kernel
theorem dL_law_1529 : decode cL_law 1529 = .ok (.iconst 1, 1) := by decide +kernel
theorem dL_law_1530 : decode cL_law 1530 = .ok (.iadd, 1) := by decide +kernel
theorem dL_law_1531 : decode cL_law 1531 = .ok (.iaload, 1) := by decide +kernel
theorem dL_law_1532 : decode cL_law 1532 = .ok (.invokevirtual 182, 3) := by decide +kernel
theorem dL_law_1535 : decode cL_law 1535 = .ok (.aload_n 2, 1) := by decide +kernel
theorem dL_law_1536 : decode cL_law 1536 = .ok (.aload_n 0, 1) := by decide +kernel
theorem dL_law_1537 : decode cL_law 1537 = .ok (.iload 4, 2) := by decide +kernel
theorem dL_law_1539 : decode cL_law 1539 = .ok (.iconst 1, 1) := by decide +kernel
theorem dL_law_1540 : decode cL_law 1540 = .ok (.iadd, 1) := by decide +kernel
theorem dL_law_1541 : decode cL_law 1541 = .ok (.iaload, 1) := by decide +kernel
theorem dL_law_1542 : decode cL_law 1542 = .ok (.invokevirtual 185, 3) := by decide +kernel
theorem dL_law_1545 : decode cL_law 1545 = .ok (.if_icmp .eq 5, 3) := by decide +kernel
theorem dL_law_1548 : decode cL_law 1548 = .ok (.iconst 0, 1) := by decide +kernel
theorem dL_law_1549 : decode cL_law 1549 = .ok (.ireturn, 1) := by decide +kernel
theorem dL_law_1550 : decode cL_law 1550 = .ok (.iinc 4 6, 3) := by decide +kernel
theorem dL_law_1553 : decode cL_law 1553 = .ok (.goto (-1530), 3) := by decide +kernel
theorem dL_law_1556 : decode cL_law 1556 = .ok (.iconst 1, 1) := by decide +kernel
theorem dL_law_1557 : decode cL_law 1557 = .ok (.ireturn, 1) := by decide +kernel
end
section
/-- which fields of a class are ints -/
def fty : Nat → List Bool := fun c => match c with
  | 0 => [true, true]
  | 1 => [true, true]
  | 2 => [true, true]
  | 3 => [true, true]
  | 4 => [true, true]
  | 5 => [false, false, false, false, false, true, true, true, true, true, true]
  | 6 => [true, true]
  | 7 => [true, false]
  | 8 => [true, true]
  | 9 => [true, true]
  | 10 => [false]
  | 11 => [false, false, false, true, false, false, false, false]
  | 12 => [false, false, false, false, true, true, true, true, false, false, false, true, false, false, false, false, false, false, true]
  | _ => []
/-- the kinds of arrays -/
def arT : Nat → FieldType := fun k => match k with
  | 0 => .int
  | 1 => .long
  | 2 => .object RX4
  | _ => .object RX7
end
section
/-! THE ABSTRACT HEAP: cells from B on, by their numbers; what each is, what it holds. -/
/-- what a cell is: .inl (kind, length) an array (0 ints, 1 longs, else references), .inr ci an object of the class vwCl has at ci -/
abbrev AT : Type := (Nat × Nat) ⊕ Nat
/-- ((cells, slots), what each cell is, ints, longs, references) -/
abbrev AH : Type := (Nat × Nat) × (Nat → Option AT) × (Nat → Nat → Int32) × (Nat → Nat → Int64) × (Nat → Nat → Option Nat)
def aN (h : AH) : Nat := h.1.1
def aS (h : AH) : Nat := h.1.2
def aT (h : AH) : Nat → Option AT := h.2.1
def aI (h : AH) : Nat → Nat → Int32 := h.2.2.1
def aL (h : AH) : Nat → Nat → Int64 := h.2.2.2.1
def aR (h : AH) : Nat → Nat → Option Nat := h.2.2.2.2
def wI (h : AH) (a : Nat) (f : Nat → Int32) : AH := (h.1, h.2.1, va_up h.2.2.1 a f, h.2.2.2.1, h.2.2.2.2)
def wL (h : AH) (a : Nat) (f : Nat → Int64) : AH := (h.1, h.2.1, h.2.2.1, va_up h.2.2.2.1 a f, h.2.2.2.2)
def wR (h : AH) (a : Nat) (f : Nat → Option Nat) : AH := (h.1, h.2.1, h.2.2.1, h.2.2.2.1, va_up h.2.2.2.2 a f)
/-- a new cell of n slots -/
def nwH (h : AH) (ty : AT) (n : Nat) : AH := ((h.1.1 + 1, h.1.2 + n), va_up h.2.1 h.1.1 (some ty), va_up h.2.2.1 h.1.1 (fun _ => 0), va_up h.2.2.2.1 h.1.1 (fun _ => 0), va_up h.2.2.2.2 h.1.1 (fun _ => none))
/-- values: an int, a long, a cell's number or null, another value -/
abbrev AV : Type := Int32 ⊕ (Int64 ⊕ (Option Nat ⊕ Value))
abbrev vI (x : Int32) : AV := .inl x
abbrev vJ (x : Int64) : AV := .inr (.inl x)
abbrev vR (o : Option Nat) : AV := .inr (.inr (.inl o))
abbrev vV (v : Value) : AV := .inr (.inr (.inr v))
def rv (B : Nat) : Option Nat → Value
  | none => .null
  | some a => .ref (B + a)
def av (B : Nat) : AV → Value
  | .inl x => .int x
  | .inr (.inl x) => .long x
  | .inr (.inr (.inl o)) => rv B o
  | .inr (.inr (.inr v)) => v
def ac : AV → Nat
  | .inl _ => 1
  | .inr (.inl _) => 2
  | .inr (.inr (.inl _)) => 1
  | .inr (.inr (.inr v)) => v.category
theorem rv_cat (B : Nat) (o : Option Nat) : (rv B o).category = 1 := by cases o <;> rfl
theorem av_cat (B : Nat) (v : AV) : (av B v).category = ac v := by
  rcases v with x | x | o | v
  · rfl
  · rfl
  · exact rv_cat B o
  · rfl
def stV (B : Nat) (st : List AV) : List Value := st.map (av B)
def lsV (B : Nat) (ls : List (Nat × AV)) : List (Nat × Value) := ls.map (fun q => (q.1, av B q.2))
/-- the launch, the law's start with its arguments, the first cell, the classes, the array classes -/
abbrev GX : Type := Launch × State × Array Value × Nat × va_G × (Nat → ClassId)
abbrev MX : Type := Program × Env × State × MethodId × Array Value × List Frame × Method × Code
/-- the world, the method's run, what it answers, (frames, locals' room, locals), the heap at its start -/
abbrev CX (α : Type) : Type := GX × MX × (α → Option Value) × (Nat × Nat × Nat) × AH
def xB (X : GX) : Nat := X.2.2.2.1
/-- the elements of an array of kind k -/
def elV (B : Nat) (h : AH) (a k : Nat) (j : Nat) : Value := if k = 0 then .int (aI h a j) else if k = 1 then .long (aL h a j) else rv B (aR h a j)
/-- the fields of an object of class ci -/
def fiV (B : Nat) (h : AH) (a ci : Nat) (j : Nat) : Value := if (fty ci).getD j true = true then .int (aI h a j) else rv B (aR h a j)
def cAt (X : GX) (h : AH) (a : Nat) (ty : AT) (H : Heap) : Prop := match ty with
  | .inl q => H[X.2.2.2.1 + a]? = some (arrV (X.2.2.2.2.2 q.1) q.2 (elV X.2.2.2.1 h a q.1))
  | .inr ci => ∃ r : vw_C, vwCl[ci]? = some r ∧ t_OB (X.2.2.2.1 + a) (X.2.2.2.2.1.1 ci) r.2.2 (X.2.2.2.2.1.2 ci) H (fiV X.2.2.2.1 h a ci)
/-- the heap H holds h -/
def HP (X : GX) (h : AH) (H : Heap) : Prop := H.size = X.2.2.2.1 + aN h ∧ ∀ (a : Nat) (ty : AT), aT h a = some ty → a < aN h ∧ cAt X h a ty H
def tysG (cA : Nat → ClassId) : List (ClassId × FieldType) := [(cA 0, arT 0), (cA 1, arT 1), (cA 2, arT 2), (cA 3, arT 3)]
/-- the good words of the tables -/
def Tg : List Cond := lw_tbl.filter goodWord
theorem mT {w : Cond} (i : Nat) (h : lw_tbl[i]? = some w) (g : goodWord w = true) : w ∈ Tg := List.mem_filter.mpr ⟨List.mem_of_getElem? h, g⟩
theorem mTs (ws : List Cond) (ps : List Nat) (hp : ws = ps.filterMap (fun i => lw_tbl[i]?)) (h : ws.all goodWord = true) : ∀ w ∈ ws, w ∈ Tg := by
  intro w hw
  have h1 := List.all_eq_true.mp h w hw
  rw [hp] at hw
  obtain ⟨i, -, hi⟩ := List.mem_filterMap.mp hw
  exact mT i hi h1
theorem gT {ws : List Cond} (h : ∀ w ∈ ws, w ∈ Tg) : GoodIn Tg ws := fun w hw => ⟨h w hw, good_of_word (List.mem_filter.mp (h w hw)).2⟩
/-- the world's facts -/
def XOK (X : GX) : Prop := (∀ w ∈ lw_tbl, w.before X.2.2.1 X.2.1 = true) ∧ va_K X.2.2.2.2.1 vwCl (tysG X.2.2.2.2.2) X.2.1
/-- the run's facts: its class, its code, its answer's type -/
def KOK {α : Type} (K : CX α) (own : String) (cc : ByteArray) (ret : Option FieldType) : Prop :=
  K.2.1.1.tables.exec = Jvm.exec ∧ K.2.1.2.2.2.2.2.2.2.code = cc ∧ K.2.1.2.2.2.2.2.2.2.maxLocals = K.2.2.2.1.2.2 ∧ K.2.1.2.2.1.vm.findClass own = some K.2.1.2.2.2.1.cls ∧ K.1.2.1.WarmedH K.2.1.2.2.1.vm ∧ K.2.1.2.2.2.2.2.2.1.sig.returnType = ret ∧ K.2.1.2.2.2.2.2.2.1.locks = false ∧ XOK K.1
/-- the machine at a place of the method, with its world -/
def Wk {α : Type} (K : CX α) (R : Room) (Q : State → Prop) (H : Heap) (locs : List Loc) (ce sl pc : Nat) (lsA : Array Slot) (st : List AV) : Prop :=
  W K.2.1.1 K.1.1 K.2.1.2.1 R K.2.1.2.2.1 K.2.1.2.2.2.1 K.2.1.2.2.2.2.1 K.2.1.2.2.2.2.2.1 K.2.1.2.2.2.2.2.2.1 K.2.1.2.2.2.2.2.2.2 H locs ce sl Q (F0 K.2.1.2.2.2.1 pc lsA (stV K.1.2.2.2.1 st))
/-- what a method's end says -/
def Qf (X : GX) (r : Option Value) (h : AH) : Array Value → State → Outcome → State → Prop := fun _ st o t => o = .returned r ∧ HP X h t.heap ∧ va_F (fun q => X.2.2.2.1 ≤ q) st t
def kR {α : Type} (K : CX α) (h' : AH) : Room := { frames := K.2.2.2.1.1, cells := aN h' - aN K.2.2.2.2, slots := aS h' - aS K.2.2.2.2, locals := K.2.2.2.1.2.1 }
def kQ {α : Type} (K : CX α) (r : α) (h' : AH) : State → Prop := MQ K.2.1.2.2.2.2.2.1 (Qf K.1 (K.2.2.1 r) h') K.2.1.2.2.2.2.1 K.2.1.2.2.1 (aN h' - aN K.2.2.2.2) (aS h' - aS K.2.2.2.2) (fun q => K.1.2.2.2.1 ≤ q)
def aLe (h h' : AH) : Prop := aN h ≤ aN h' ∧ aS h ≤ aS h'
theorem aLe.rf (h : AH) : aLe h h := ⟨Nat.le_refl _, Nat.le_refl _⟩
theorem aLe.tr {a b c : AH} (h : aLe a b) (h2 : aLe b c) : aLe a c := ⟨Nat.le_trans h.1 h2.1, Nat.le_trans h.2 h2.2⟩
/-- from the place pc, with locals ls, stack st, heap h: if o is an answer, the method ends with it -/
def Go {α : Type} (K : CX α) (pc : Nat) (ls : List (Nat × AV)) (st : List AV) (h : AH) (o : Option (α × AH)) : Prop :=
  ∀ (r : α) (h' : AH), o = some (r, h') → aLe h h' ∧ (aLe K.2.2.2.2 h → ∀ (H : Heap) (locs : List Loc) (lsA : Array Slot), HP K.1 h H → va_S (fun q => K.1.2.2.2.1 ≤ q) K.2.1.2.2.1.heap H locs → lv_has lsA K.2.2.2.1.2.2 (lsV K.1.2.2.2.1 ls) → Wk K (kR K h') (kQ K r h') H locs (aN h - aN K.2.2.2.2) (aS h - aS K.2.2.2.2) pc lsA st)
theorem KOK.hts {α : Type} {K : CX α} {own : String} {cc : ByteArray} {ret : Option FieldType} (hK : KOK K own cc ret) : ∀ w ∈ Tg, w.before K.2.1.2.2.2.2.1 K.2.1.2.2.1 = true := fun w hw =>
  word_at hK.2.2.2.2.1 (good_of_word (List.mem_filter.mp hw).2) (hK.2.2.2.2.2.2.2.1 w (List.mem_filter.mp hw).1)
theorem KOK.vk {α : Type} {K : CX α} {own : String} {cc : ByteArray} {ret : Option FieldType} (hK : KOK K own cc ret) : va_K K.1.2.2.2.2.1 vwCl (tysG K.1.2.2.2.2.2) K.2.1.2.2.1 := va_K.moved hK.2.2.2.2.1.alike hK.2.2.2.2.2.2.2.2
section STEPS
variable {α : Type} {K : CX α} {own : String} {cc : ByteArray} {ret : Option FieldType} {pc : Nat} {ls : List (Nat × AV)} {st : List AV} {h : AH} {o : Option (α × AH)}
/-- a step that leaves heap and locals -/
theorem go_step {pc' : Nat} {st' : List AV} (k : Go K pc' ls st' h o) (hs : ∀ (R : Room) (Q : State → Prop) (H : Heap) (locs : List Loc) (ce sl : Nat) (lsA : Array Slot), lv_has lsA K.2.2.2.1.2.2 (lsV K.1.2.2.2.1 ls) → Wk K R Q H locs ce sl pc' lsA st' → Wk K R Q H locs ce sl pc lsA st) : Go K pc ls st h o := fun r h' ho =>
  ⟨(k r h' ho).1, fun a H locs lsA hP hS hl => hs _ _ _ _ _ _ _ hl ((k r h' ho).2 a H locs lsA hP hS hl)⟩
/-- a step that sets locals -/
theorem go_stepL {pc' : Nat} {st' : List AV} {ls' : List (Nat × AV)} (k : Go K pc' ls' st' h o) (hs : ∀ (R : Room) (Q : State → Prop) (H : Heap) (locs : List Loc) (ce sl : Nat) (lsA : Array Slot), lv_has lsA K.2.2.2.1.2.2 (lsV K.1.2.2.2.1 ls) → (∀ lsB : Array Slot, lv_has lsB K.2.2.2.1.2.2 (lsV K.1.2.2.2.1 ls') → Wk K R Q H locs ce sl pc' lsB st') → Wk K R Q H locs ce sl pc lsA st) : Go K pc ls st h o := fun r h' ho =>
  ⟨(k r h' ho).1, fun a H locs lsA hP hS hl => hs _ _ _ _ _ _ _ hl (fun lsB hl' => (k r h' ho).2 a H locs lsB hP hS hl')⟩
theorem lsV_at {B : Nat} {k i : Nat} {v : AV} (e : ls[k]? = some (i, v)) : (lsV B ls)[k]? = some (i, av B v) := by
  simp [lsV, List.getElem?_map, e]
/-- fewer locals, in another order -/
theorem go_sub {ls' : List (Nat × AV)} (ps : List Nat) (e : ps.filterMap (fun k => ls[k]?) = ls') (k : Go K pc ls' st h o) : Go K pc ls st h o := fun r h' ho =>
  ⟨(k r h' ho).1, fun a H locs lsA hP hS hl => (k r h' ho).2 a H locs lsA hP hS (lv_sub hl ps (by
    subst e
    unfold lv_pick lsV
    rw [List.map_filterMap]
    congr 1
    funext j
    rw [List.getElem?_map]))⟩
theorem go_iconst (hK : KOK K own cc ret) {n : Int} {v : Int32} (d : decode cc pc = .ok (.iconst n, 1)) (e : Int32.ofInt n = v) (k : Go K (pc + 1) ls (vI v :: st) h o) : Go K pc ls st h o :=
  go_step k (fun _ _ _ _ _ _ _ _ w => lv_iconst hK.1 hK.2.1 d e w)
theorem go_bipush (hK : KOK K own cc ret) {n : Int} {v : Int32} (d : decode cc pc = .ok (.bipush n, 2)) (e : (Int8.ofInt n).toInt32 = v) (k : Go K (pc + 2) ls (vI v :: st) h o) : Go K pc ls st h o :=
  go_step k (fun _ _ _ _ _ _ _ _ w => lv_bipush hK.1 hK.2.1 d e w)
theorem go_sipush (hK : KOK K own cc ret) {n : Int} {v : Int32} (d : decode cc pc = .ok (.sipush n, 3)) (e : (Int16.ofInt n).toInt32 = v) (k : Go K (pc + 3) ls (vI v :: st) h o) : Go K pc ls st h o :=
  go_step k (fun _ _ _ _ _ _ _ _ w => lv_sipush hK.1 hK.2.1 d e w)
theorem go_lconst (hK : KOK K own cc ret) {n : Fin 2} {v : Int64} (d : decode cc pc = .ok (.lconst n, 1)) (e : Int64.ofNat (n : Nat) = v) (k : Go K (pc + 1) ls (vJ v :: st) h o) : Go K pc ls st h o :=
  go_step k (fun _ _ _ _ _ _ _ _ w => lv_lconst hK.1 hK.2.1 d e w)
theorem go_ldc (hK : KOK K own cc ret) {i : Nat} {v : Int32} (w : Cond.constant own i v ∈ Tg) (d : decode cc pc = .ok (.ldc i, 2)) (k : Go K (pc + 2) ls (vI v :: st) h o) : Go K pc ls st h o :=
  go_step k (fun _ _ _ _ _ _ _ _ x => lv_ldc hK.1 hK.2.1 hK.2.2.2.1 (hK.hts _ w) d x)
theorem go_ldcw (hK : KOK K own cc ret) {i : Nat} {v : Int32} (w : Cond.constant own i v ∈ Tg) (d : decode cc pc = .ok (.ldc_w i, 3)) (k : Go K (pc + 3) ls (vI v :: st) h o) : Go K pc ls st h o :=
  go_step k (fun _ _ _ _ _ _ _ _ x => lv_ldcw hK.1 hK.2.1 hK.2.2.2.1 (hK.hts _ w) d x)
theorem go_ldc2 (hK : KOK K own cc ret) {i : Nat} {v : Int64} (w : Cond.constantLong own i v ∈ Tg) (d : decode cc pc = .ok (.ldc2_w i, 3)) (k : Go K (pc + 3) ls (vJ v :: st) h o) : Go K pc ls st h o :=
  go_step k (fun _ _ _ _ _ _ _ _ x => lv_ldc2 hK.1 hK.2.1 hK.2.2.2.1 (hK.hts _ w) d x)
theorem go_null (hK : KOK K own cc ret) (d : decode cc pc = .ok (.aconst_null, 1)) (k : Go K (pc + 1) ls (vR none :: st) h o) : Go K pc ls st h o :=
  go_step k (fun _ _ _ _ _ _ _ _ w => lv_null hK.1 hK.2.1 d w)
theorem go_iload_n (hK : KOK K own cc ret) (j : Nat) {n : Fin 4} {i : Nat} {x : Int32} (d : decode cc pc = .ok (.iload_n n, 1)) (hi : (n : Nat) = i) (e : ls[j]? = some (i, vI x)) (k : Go K (pc + 1) ls (vI x :: st) h o) : Go K pc ls st h o :=
  go_step k (fun _ _ _ _ _ _ _ hl w => lv_iload_n hK.1 hK.2.1 d hi (lv_at hl j (lsV_at e)) w)
theorem go_iload (hK : KOK K own cc ret) (j : Nat) {i : Nat} {x : Int32} (d : decode cc pc = .ok (.iload i, 2)) (e : ls[j]? = some (i, vI x)) (k : Go K (pc + 2) ls (vI x :: st) h o) : Go K pc ls st h o :=
  go_step k (fun _ _ _ _ _ _ _ hl w => lv_iload hK.1 hK.2.1 d (lv_at hl j (lsV_at e)) w)
theorem go_lload_n (hK : KOK K own cc ret) (j : Nat) {n : Fin 4} {i : Nat} {x : Int64} (d : decode cc pc = .ok (.lload_n n, 1)) (hi : (n : Nat) = i) (e : ls[j]? = some (i, vJ x)) (k : Go K (pc + 1) ls (vJ x :: st) h o) : Go K pc ls st h o :=
  go_step k (fun _ _ _ _ _ _ _ hl w => lv_lload_n hK.1 hK.2.1 d hi (lv_at hl j (lsV_at e)) w)
theorem go_lload (hK : KOK K own cc ret) (j : Nat) {i : Nat} {x : Int64} (d : decode cc pc = .ok (.lload i, 2)) (e : ls[j]? = some (i, vJ x)) (k : Go K (pc + 2) ls (vJ x :: st) h o) : Go K pc ls st h o :=
  go_step k (fun _ _ _ _ _ _ _ hl w => lv_lload hK.1 hK.2.1 d (lv_at hl j (lsV_at e)) w)
theorem go_aload_n (hK : KOK K own cc ret) (j : Nat) {n : Fin 4} {i : Nat} {x : Option Nat} (d : decode cc pc = .ok (.aload_n n, 1)) (hi : (n : Nat) = i) (e : ls[j]? = some (i, vR x)) (k : Go K (pc + 1) ls (vR x :: st) h o) : Go K pc ls st h o := by
  cases x with
  | none => exact go_step k (fun _ _ _ _ _ _ _ hl w => lv_aload_nN hK.1 hK.2.1 d hi (lv_at hl j (lsV_at e)) w)
  | some a => exact go_step k (fun _ _ _ _ _ _ _ hl w => lv_aload_n hK.1 hK.2.1 d hi (lv_at hl j (lsV_at e)) w)
theorem go_aload (hK : KOK K own cc ret) (j : Nat) {i : Nat} {x : Option Nat} (d : decode cc pc = .ok (.aload i, 2)) (e : ls[j]? = some (i, vR x)) (k : Go K (pc + 2) ls (vR x :: st) h o) : Go K pc ls st h o := by
  cases x with
  | none => exact go_step k (fun _ _ _ _ _ _ _ hl w => lv_aloadN hK.1 hK.2.1 d (lv_at hl j (lsV_at e)) w)
  | some a => exact go_step k (fun _ _ _ _ _ _ _ hl w => lv_aload hK.1 hK.2.1 d (lv_at hl j (lsV_at e)) w)
end STEPS
end
section
section STEPS2
variable {α : Type} {K : CX α} {own : String} {cc : ByteArray} {ret : Option FieldType} {pc : Nat} {ls : List (Nat × AV)} {st : List AV} {h : AH} {o : Option (α × AH)}
theorem lsV_f1 (B i : Nat) (ls : List (Nat × AV)) : lsV B (ls.filter (fun q => !(q.1 == i) && !(q.1 + 1 == i && ac q.2 == 2))) = (lsV B ls).filter (fun q => !(q.1 == i) && !(q.1 + 1 == i && q.2.category == 2)) := by
  unfold lsV
  rw [List.filter_map]
  congr 2
  funext q
  simp [Function.comp, av_cat]
theorem lsV_f2 (B i : Nat) (ls : List (Nat × AV)) : lsV B (ls.filter (fun q => !(q.1 == i) && (!(q.1 == i + 1) && !(q.1 + 1 == i && ac q.2 == 2)))) = (lsV B ls).filter (fun q => !(q.1 == i) && (!(q.1 == i + 1) && !(q.1 + 1 == i && q.2.category == 2))) := by
  unfold lsV
  rw [List.filter_map]
  congr 2
  funext q
  simp [Function.comp, av_cat]
theorem lsV_s1 {B i : Nat} {v : AV} {ls ls' : List (Nat × AV)} (e : (i, v) :: ls.filter (fun q => !(q.1 == i) && !(q.1 + 1 == i && ac q.2 == 2)) = ls') : (i, av B v) :: (lsV B ls).filter (fun q => !(q.1 == i) && !(q.1 + 1 == i && q.2.category == 2)) = lsV B ls' := by
  subst e
  rw [← lsV_f1]
  rfl
theorem lsV_s2 {B i : Nat} {v : AV} {ls ls' : List (Nat × AV)} (e : (i, v) :: ls.filter (fun q => !(q.1 == i) && (!(q.1 == i + 1) && !(q.1 + 1 == i && ac q.2 == 2))) = ls') : (i, av B v) :: (lsV B ls).filter (fun q => !(q.1 == i) && (!(q.1 == i + 1) && !(q.1 + 1 == i && q.2.category == 2))) = lsV B ls' := by
  subst e
  rw [← lsV_f2]
  rfl
theorem go_istore_n (hK : KOK K own cc ret) {n : Fin 4} {i : Nat} {x : Int32} {ls' : List (Nat × AV)} (d : decode cc pc = .ok (.istore_n n, 1)) (hi : (n : Nat) = i) (hn : i < K.2.2.2.1.2.2) (e : (i, vI x) :: ls.filter (fun q => !(q.1 == i) && !(q.1 + 1 == i && ac q.2 == 2)) = ls') (k : Go K (pc + 1) ls' st h o) : Go K pc ls (vI x :: st) h o :=
  go_stepL k (fun _ _ _ _ _ _ _ hl w => lv_istore_n hK.1 hK.2.1 d hi hl hn (lsV_s1 e) w)
theorem go_istore (hK : KOK K own cc ret) {i : Nat} {x : Int32} {ls' : List (Nat × AV)} (d : decode cc pc = .ok (.istore i, 2)) (hn : i < K.2.2.2.1.2.2) (e : (i, vI x) :: ls.filter (fun q => !(q.1 == i) && !(q.1 + 1 == i && ac q.2 == 2)) = ls') (k : Go K (pc + 2) ls' st h o) : Go K pc ls (vI x :: st) h o :=
  go_stepL k (fun _ _ _ _ _ _ _ hl w => lv_istore hK.1 hK.2.1 d hl hn (lsV_s1 e) w)
theorem go_lstore_n (hK : KOK K own cc ret) {n : Fin 4} {i : Nat} {x : Int64} {ls' : List (Nat × AV)} (d : decode cc pc = .ok (.lstore_n n, 1)) (hi : (n : Nat) = i) (hn : i + 1 < K.2.2.2.1.2.2) (e : (i, vJ x) :: ls.filter (fun q => !(q.1 == i) && (!(q.1 == i + 1) && !(q.1 + 1 == i && ac q.2 == 2))) = ls') (k : Go K (pc + 1) ls' st h o) : Go K pc ls (vJ x :: st) h o :=
  go_stepL k (fun _ _ _ _ _ _ _ hl w => lv_lstore_n hK.1 hK.2.1 d hi hl hn (lsV_s2 e) w)
theorem go_lstore (hK : KOK K own cc ret) {i : Nat} {x : Int64} {ls' : List (Nat × AV)} (d : decode cc pc = .ok (.lstore i, 2)) (hn : i + 1 < K.2.2.2.1.2.2) (e : (i, vJ x) :: ls.filter (fun q => !(q.1 == i) && (!(q.1 == i + 1) && !(q.1 + 1 == i && ac q.2 == 2))) = ls') (k : Go K (pc + 2) ls' st h o) : Go K pc ls (vJ x :: st) h o :=
  go_stepL k (fun _ _ _ _ _ _ _ hl w => lv_lstore hK.1 hK.2.1 d hl hn (lsV_s2 e) w)
theorem go_astore_n (hK : KOK K own cc ret) {n : Fin 4} {i : Nat} {x : Option Nat} {ls' : List (Nat × AV)} (d : decode cc pc = .ok (.astore_n n, 1)) (hi : (n : Nat) = i) (hn : i < K.2.2.2.1.2.2) (e : (i, vR x) :: ls.filter (fun q => !(q.1 == i) && !(q.1 + 1 == i && ac q.2 == 2)) = ls') (k : Go K (pc + 1) ls' st h o) : Go K pc ls (vR x :: st) h o := by
  cases x with
  | none => exact go_stepL k (fun _ _ _ _ _ _ _ hl w => lv_astore_nN hK.1 hK.2.1 d hi hl hn (lsV_s1 e) w)
  | some a => exact go_stepL k (fun _ _ _ _ _ _ _ hl w => lv_astore_n hK.1 hK.2.1 d hi hl hn (lsV_s1 e) w)
theorem go_astore (hK : KOK K own cc ret) {i : Nat} {x : Option Nat} {ls' : List (Nat × AV)} (d : decode cc pc = .ok (.astore i, 2)) (hn : i < K.2.2.2.1.2.2) (e : (i, vR x) :: ls.filter (fun q => !(q.1 == i) && !(q.1 + 1 == i && ac q.2 == 2)) = ls') (k : Go K (pc + 2) ls' st h o) : Go K pc ls (vR x :: st) h o := by
  cases x with
  | none => exact go_stepL k (fun _ _ _ _ _ _ _ hl w => lv_astoreN hK.1 hK.2.1 d hl hn (lsV_s1 e) w)
  | some a => exact go_stepL k (fun _ _ _ _ _ _ _ hl w => lv_astore hK.1 hK.2.1 d hl hn (lsV_s1 e) w)
theorem go_iinc (hK : KOK K own cc ret) (j : Nat) {i : Nat} {n : Int} {x v : Int32} {ls' : List (Nat × AV)} (d : decode cc pc = .ok (.iinc i n, 3)) (e : ls[j]? = some (i, vI x)) (hv : x + Int32.ofInt n = v) (hn : i < K.2.2.2.1.2.2) (e2 : (i, vI v) :: ls.filter (fun q => !(q.1 == i) && !(q.1 + 1 == i && ac q.2 == 2)) = ls') (k : Go K (pc + 3) ls' st h o) : Go K pc ls st h o :=
  go_stepL k (fun _ _ _ _ _ _ _ hl w => lv_iinc hK.1 hK.2.1 d hl (lsV_at e) hv hn (lsV_s1 e2) w)
theorem go_iadd (hK : KOK K own cc ret) {x y : Int32} (d : decode cc pc = .ok (.iadd, 1)) (k : Go K (pc + 1) ls (vI (x + y) :: st) h o) : Go K pc ls (vI y :: vI x :: st) h o :=
  go_step k (fun _ _ _ _ _ _ _ _ w => lv_iadd hK.1 hK.2.1 d w)
theorem go_isub (hK : KOK K own cc ret) {x y : Int32} (d : decode cc pc = .ok (.isub, 1)) (k : Go K (pc + 1) ls (vI (x - y) :: st) h o) : Go K pc ls (vI y :: vI x :: st) h o :=
  go_step k (fun _ _ _ _ _ _ _ _ w => lv_isub hK.1 hK.2.1 d w)
theorem go_imul (hK : KOK K own cc ret) {x y : Int32} (d : decode cc pc = .ok (.imul, 1)) (k : Go K (pc + 1) ls (vI (x * y) :: st) h o) : Go K pc ls (vI y :: vI x :: st) h o :=
  go_step k (fun _ _ _ _ _ _ _ _ w => lv_imul hK.1 hK.2.1 d w)
theorem go_iand (hK : KOK K own cc ret) {x y : Int32} (d : decode cc pc = .ok (.iand, 1)) (k : Go K (pc + 1) ls (vI (x &&& y) :: st) h o) : Go K pc ls (vI y :: vI x :: st) h o :=
  go_step k (fun _ _ _ _ _ _ _ _ w => lv_iand hK.1 hK.2.1 d w)
theorem go_ior (hK : KOK K own cc ret) {x y : Int32} (d : decode cc pc = .ok (.ior, 1)) (k : Go K (pc + 1) ls (vI (x ||| y) :: st) h o) : Go K pc ls (vI y :: vI x :: st) h o :=
  go_step k (fun _ _ _ _ _ _ _ _ w => lv_ior hK.1 hK.2.1 d w)
theorem go_ixor (hK : KOK K own cc ret) {x y : Int32} (d : decode cc pc = .ok (.ixor, 1)) (k : Go K (pc + 1) ls (vI (x ^^^ y) :: st) h o) : Go K pc ls (vI y :: vI x :: st) h o :=
  go_step k (fun _ _ _ _ _ _ _ _ w => lv_ixor hK.1 hK.2.1 d w)
theorem go_ishl (hK : KOK K own cc ret) {x y : Int32} (d : decode cc pc = .ok (.ishl, 1)) (k : Go K (pc + 1) ls (vI (x <<< (y &&& 31)) :: st) h o) : Go K pc ls (vI y :: vI x :: st) h o :=
  go_step k (fun _ _ _ _ _ _ _ _ w => lv_ishl hK.1 hK.2.1 d w)
theorem go_ishr (hK : KOK K own cc ret) {x y : Int32} (d : decode cc pc = .ok (.ishr, 1)) (k : Go K (pc + 1) ls (vI (x >>> (y &&& 31)) :: st) h o) : Go K pc ls (vI y :: vI x :: st) h o :=
  go_step k (fun _ _ _ _ _ _ _ _ w => lv_ishr hK.1 hK.2.1 d w)
theorem go_iushr (hK : KOK K own cc ret) {x y : Int32} (d : decode cc pc = .ok (.iushr, 1)) (k : Go K (pc + 1) ls (vI ((x.toUInt32 >>> (y.toUInt32 &&& Int32.toUInt32 31)).toInt32) :: st) h o) : Go K pc ls (vI y :: vI x :: st) h o :=
  go_step k (fun _ _ _ _ _ _ _ _ w => lv_iushr hK.1 hK.2.1 d rfl w)
/-- by a divisor that is known -/
theorem go_idivK (hK : KOK K own cc ret) {x y : Int32} (d : decode cc pc = .ok (.idiv, 1)) (hy : ¬ y = 0) (k : Go K (pc + 1) ls (vI (x / y) :: st) h o) : Go K pc ls (vI y :: vI x :: st) h o :=
  go_step k (fun _ _ _ _ _ _ _ _ w => lv_idiv hK.1 hK.2.1 d hy w)
theorem go_idiv (hK : KOK K own cc ret) {x y : Int32} (d : decode cc pc = .ok (.idiv, 1)) (k : Go K (pc + 1) ls (vI (x / y) :: st) h o) : Go K pc ls (vI y :: vI x :: st) h (if y = 0 then none else o) := by
  intro r h' ho
  by_cases hy : y = 0
  · rw [if_pos hy] at ho; cases ho
  · rw [if_neg hy] at ho; exact go_idivK hK d hy k r h' ho
/-- by a divisor that is known -/
theorem go_iremK (hK : KOK K own cc ret) {x y : Int32} (d : decode cc pc = .ok (.irem, 1)) (hy : ¬ y = 0) (k : Go K (pc + 1) ls (vI (x - x / y * y) :: st) h o) : Go K pc ls (vI y :: vI x :: st) h o :=
  go_step k (fun _ _ _ _ _ _ _ _ w => lv_irem hK.1 hK.2.1 d hy w)
theorem go_irem (hK : KOK K own cc ret) {x y : Int32} (d : decode cc pc = .ok (.irem, 1)) (k : Go K (pc + 1) ls (vI (x - x / y * y) :: st) h o) : Go K pc ls (vI y :: vI x :: st) h (if y = 0 then none else o) := by
  intro r h' ho
  by_cases hy : y = 0
  · rw [if_pos hy] at ho; cases ho
  · rw [if_neg hy] at ho; exact go_iremK hK d hy k r h' ho
/-- by a divisor that is known -/
theorem go_ldivK (hK : KOK K own cc ret) {x y : Int64} (d : decode cc pc = .ok (.ldiv, 1)) (hy : ¬ y = 0) (k : Go K (pc + 1) ls (vJ (x / y) :: st) h o) : Go K pc ls (vJ y :: vJ x :: st) h o :=
  go_step k (fun _ _ _ _ _ _ _ _ w => lv_ldiv hK.1 hK.2.1 d hy w)
theorem go_ldiv (hK : KOK K own cc ret) {x y : Int64} (d : decode cc pc = .ok (.ldiv, 1)) (k : Go K (pc + 1) ls (vJ (x / y) :: st) h o) : Go K pc ls (vJ y :: vJ x :: st) h (if y = 0 then none else o) := by
  intro r h' ho
  by_cases hy : y = 0
  · rw [if_pos hy] at ho; cases ho
  · rw [if_neg hy] at ho; exact go_ldivK hK d hy k r h' ho
/-- by a divisor that is known -/
theorem go_lremK (hK : KOK K own cc ret) {x y : Int64} (d : decode cc pc = .ok (.lrem, 1)) (hy : ¬ y = 0) (k : Go K (pc + 1) ls (vJ (x - x / y * y) :: st) h o) : Go K pc ls (vJ y :: vJ x :: st) h o :=
  go_step k (fun _ _ _ _ _ _ _ _ w => lv_lrem hK.1 hK.2.1 d hy w)
theorem go_lrem (hK : KOK K own cc ret) {x y : Int64} (d : decode cc pc = .ok (.lrem, 1)) (k : Go K (pc + 1) ls (vJ (x - x / y * y) :: st) h o) : Go K pc ls (vJ y :: vJ x :: st) h (if y = 0 then none else o) := by
  intro r h' ho
  by_cases hy : y = 0
  · rw [if_pos hy] at ho; cases ho
  · rw [if_neg hy] at ho; exact go_lremK hK d hy k r h' ho
theorem go_ladd (hK : KOK K own cc ret) {x y : Int64} (d : decode cc pc = .ok (.ladd, 1)) (k : Go K (pc + 1) ls (vJ (x + y) :: st) h o) : Go K pc ls (vJ y :: vJ x :: st) h o :=
  go_step k (fun _ _ _ _ _ _ _ _ w => lv_ladd hK.1 hK.2.1 d w)
theorem go_lmul (hK : KOK K own cc ret) {x y : Int64} (d : decode cc pc = .ok (.lmul, 1)) (k : Go K (pc + 1) ls (vJ (x * y) :: st) h o) : Go K pc ls (vJ y :: vJ x :: st) h o :=
  go_step k (fun _ _ _ _ _ _ _ _ w => lv_lmul hK.1 hK.2.1 d w)
theorem go_lneg (hK : KOK K own cc ret) {x : Int64} (d : decode cc pc = .ok (.lneg, 1)) (k : Go K (pc + 1) ls (vJ (-x) :: st) h o) : Go K pc ls (vJ x :: st) h o :=
  go_step k (fun _ _ _ _ _ _ _ _ w => lv_lneg hK.1 hK.2.1 d w)
theorem go_lcmp (hK : KOK K own cc ret) {x y : Int64} (d : decode cc pc = .ok (.lcmp, 1)) (k : Go K (pc + 1) ls (vI (lg_cmp x y) :: st) h o) : Go K pc ls (vJ y :: vJ x :: st) h o :=
  go_step k (fun _ _ _ _ _ _ _ _ w => W.lcmp hK.1 hK.2.1 d w)
theorem go_i2l (hK : KOK K own cc ret) {x : Int32} (d : decode cc pc = .ok (.i2l, 1)) (k : Go K (pc + 1) ls (vJ (x.toInt64) :: st) h o) : Go K pc ls (vI x :: st) h o :=
  go_step k (fun _ _ _ _ _ _ _ _ w => lv_i2l hK.1 hK.2.1 d rfl w)
theorem go_i2b (hK : KOK K own cc ret) {x : Int32} (d : decode cc pc = .ok (.i2b, 1)) (k : Go K (pc + 1) ls (vI (x.toInt8.toInt32) :: st) h o) : Go K pc ls (vI x :: st) h o :=
  go_step k (fun _ _ _ _ _ _ _ _ w => lv_i2b hK.1 hK.2.1 d rfl w)
theorem go_i2s (hK : KOK K own cc ret) {x : Int32} (d : decode cc pc = .ok (.i2s, 1)) (k : Go K (pc + 1) ls (vI (x.toInt16.toInt32) :: st) h o) : Go K pc ls (vI x :: st) h o :=
  go_step k (fun _ _ _ _ _ _ _ _ w => lv_i2s hK.1 hK.2.1 d rfl w)
theorem go_dup (hK : KOK K own cc ret) {v : AV} (d : decode cc pc = .ok (.dup, 1)) (e : ac v = 1) (k : Go K (pc + 1) ls (v :: v :: st) h o) : Go K pc ls (v :: st) h o :=
  go_step k (fun _ _ _ _ _ _ _ _ w => lv_dup hK.1 hK.2.1 d ((av_cat _ _).trans e) w)
theorem go_dup2 (hK : KOK K own cc ret) {v u : AV} (d : decode cc pc = .ok (.dup2, 1)) (e : ac v = 1) (e2 : ac u = 1) (k : Go K (pc + 1) ls (v :: u :: v :: u :: st) h o) : Go K pc ls (v :: u :: st) h o :=
  go_step k (fun _ _ _ _ _ _ _ _ w => lv_dup2_11 hK.1 hK.2.1 d ((av_cat _ _).trans e) ((av_cat _ _).trans e2) w)
theorem go_goto (hK : KOK K own cc ret) {off : Int} {tgt : Nat} (d : decode cc pc = .ok (.goto off, 3)) (t : (pc : Int) + off = (tgt : Int)) (k : Go K tgt ls st h o) : Go K pc ls st h o :=
  go_step k (fun _ _ _ _ _ _ _ _ w => lv_goto hK.1 hK.2.1 d t w)
theorem go_ifeq (hK : KOK K own cc ret) {x : Int32} {off : Int} {tgt : Nat} {oa ob : Option (α × AH)} (d : decode cc pc = .ok (.ifCond .eq off, 3)) (t : (pc : Int) + off = (tgt : Int)) (kt : Go K tgt ls st h oa) (kf : Go K (pc + 3) ls st h ob) : Go K pc ls (vI x :: st) h (if x = 0 then oa else ob) := by
  intro r h' ho
  by_cases hc : x = 0
  · rw [if_pos hc] at ho
    exact ⟨(kt r h' ho).1, fun a H locs lsA hP hS hl => lv_if_eq hK.1 hK.2.1 d t (fun _ => (kt r h' ho).2 a H locs lsA hP hS hl) (fun hn => absurd hc hn)⟩
  · rw [if_neg hc] at ho
    exact ⟨(kf r h' ho).1, fun a H locs lsA hP hS hl => lv_if_eq hK.1 hK.2.1 d t (fun hn => absurd hn hc) (fun _ => (kf r h' ho).2 a H locs lsA hP hS hl)⟩
theorem go_icmpeq (hK : KOK K own cc ret) {x y : Int32} {off : Int} {tgt : Nat} {oa ob : Option (α × AH)} (d : decode cc pc = .ok (.if_icmp .eq off, 3)) (t : (pc : Int) + off = (tgt : Int)) (kt : Go K tgt ls st h oa) (kf : Go K (pc + 3) ls st h ob) : Go K pc ls (vI y :: vI x :: st) h (if x = y then oa else ob) := by
  intro r h' ho
  by_cases hc : x = y
  · rw [if_pos hc] at ho
    exact ⟨(kt r h' ho).1, fun a H locs lsA hP hS hl => lv_icmp_eq hK.1 hK.2.1 d t (fun _ => (kt r h' ho).2 a H locs lsA hP hS hl) (fun hn => absurd hc hn)⟩
  · rw [if_neg hc] at ho
    exact ⟨(kf r h' ho).1, fun a H locs lsA hP hS hl => lv_icmp_eq hK.1 hK.2.1 d t (fun hn => absurd hn hc) (fun _ => (kf r h' ho).2 a H locs lsA hP hS hl)⟩
theorem go_ifne (hK : KOK K own cc ret) {x : Int32} {off : Int} {tgt : Nat} {oa ob : Option (α × AH)} (d : decode cc pc = .ok (.ifCond .ne off, 3)) (t : (pc : Int) + off = (tgt : Int)) (kt : Go K tgt ls st h oa) (kf : Go K (pc + 3) ls st h ob) : Go K pc ls (vI x :: st) h (if x = 0 then ob else oa) := by
  intro r h' ho
  by_cases hc : x = 0
  · rw [if_pos hc] at ho
    exact ⟨(kf r h' ho).1, fun a H locs lsA hP hS hl => lv_if_ne hK.1 hK.2.1 d t (fun hn => absurd hc hn) (fun _ => (kf r h' ho).2 a H locs lsA hP hS hl)⟩
  · rw [if_neg hc] at ho
    exact ⟨(kt r h' ho).1, fun a H locs lsA hP hS hl => lv_if_ne hK.1 hK.2.1 d t (fun _ => (kt r h' ho).2 a H locs lsA hP hS hl) (fun hn => absurd hn hc)⟩
theorem go_icmpne (hK : KOK K own cc ret) {x y : Int32} {off : Int} {tgt : Nat} {oa ob : Option (α × AH)} (d : decode cc pc = .ok (.if_icmp .ne off, 3)) (t : (pc : Int) + off = (tgt : Int)) (kt : Go K tgt ls st h oa) (kf : Go K (pc + 3) ls st h ob) : Go K pc ls (vI y :: vI x :: st) h (if x = y then ob else oa) := by
  intro r h' ho
  by_cases hc : x = y
  · rw [if_pos hc] at ho
    exact ⟨(kf r h' ho).1, fun a H locs lsA hP hS hl => lv_icmp_ne hK.1 hK.2.1 d t (fun hn => absurd hc hn) (fun _ => (kf r h' ho).2 a H locs lsA hP hS hl)⟩
  · rw [if_neg hc] at ho
    exact ⟨(kt r h' ho).1, fun a H locs lsA hP hS hl => lv_icmp_ne hK.1 hK.2.1 d t (fun _ => (kt r h' ho).2 a H locs lsA hP hS hl) (fun hn => absurd hn hc)⟩
theorem go_iflt (hK : KOK K own cc ret) {x : Int32} {off : Int} {tgt : Nat} {oa ob : Option (α × AH)} (d : decode cc pc = .ok (.ifCond .lt off, 3)) (t : (pc : Int) + off = (tgt : Int)) (kt : Go K tgt ls st h oa) (kf : Go K (pc + 3) ls st h ob) : Go K pc ls (vI x :: st) h (if x < 0 then oa else ob) := by
  intro r h' ho
  by_cases hc : x < 0
  · rw [if_pos hc] at ho
    exact ⟨(kt r h' ho).1, fun a H locs lsA hP hS hl => lv_if_lt hK.1 hK.2.1 d t (fun _ => (kt r h' ho).2 a H locs lsA hP hS hl) (fun hn => absurd hc hn)⟩
  · rw [if_neg hc] at ho
    exact ⟨(kf r h' ho).1, fun a H locs lsA hP hS hl => lv_if_lt hK.1 hK.2.1 d t (fun hn => absurd hn hc) (fun _ => (kf r h' ho).2 a H locs lsA hP hS hl)⟩
theorem go_icmplt (hK : KOK K own cc ret) {x y : Int32} {off : Int} {tgt : Nat} {oa ob : Option (α × AH)} (d : decode cc pc = .ok (.if_icmp .lt off, 3)) (t : (pc : Int) + off = (tgt : Int)) (kt : Go K tgt ls st h oa) (kf : Go K (pc + 3) ls st h ob) : Go K pc ls (vI y :: vI x :: st) h (if x < y then oa else ob) := by
  intro r h' ho
  by_cases hc : x < y
  · rw [if_pos hc] at ho
    exact ⟨(kt r h' ho).1, fun a H locs lsA hP hS hl => lv_icmp_lt hK.1 hK.2.1 d t (fun _ => (kt r h' ho).2 a H locs lsA hP hS hl) (fun hn => absurd hc hn)⟩
  · rw [if_neg hc] at ho
    exact ⟨(kf r h' ho).1, fun a H locs lsA hP hS hl => lv_icmp_lt hK.1 hK.2.1 d t (fun hn => absurd hn hc) (fun _ => (kf r h' ho).2 a H locs lsA hP hS hl)⟩
theorem go_ifge (hK : KOK K own cc ret) {x : Int32} {off : Int} {tgt : Nat} {oa ob : Option (α × AH)} (d : decode cc pc = .ok (.ifCond .ge off, 3)) (t : (pc : Int) + off = (tgt : Int)) (kt : Go K tgt ls st h oa) (kf : Go K (pc + 3) ls st h ob) : Go K pc ls (vI x :: st) h (if 0 ≤ x then oa else ob) := by
  intro r h' ho
  by_cases hc : 0 ≤ x
  · rw [if_pos hc] at ho
    exact ⟨(kt r h' ho).1, fun a H locs lsA hP hS hl => lv_if_ge hK.1 hK.2.1 d t (fun _ => (kt r h' ho).2 a H locs lsA hP hS hl) (fun hn => absurd hc hn)⟩
  · rw [if_neg hc] at ho
    exact ⟨(kf r h' ho).1, fun a H locs lsA hP hS hl => lv_if_ge hK.1 hK.2.1 d t (fun hn => absurd hn hc) (fun _ => (kf r h' ho).2 a H locs lsA hP hS hl)⟩
theorem go_icmpge (hK : KOK K own cc ret) {x y : Int32} {off : Int} {tgt : Nat} {oa ob : Option (α × AH)} (d : decode cc pc = .ok (.if_icmp .ge off, 3)) (t : (pc : Int) + off = (tgt : Int)) (kt : Go K tgt ls st h oa) (kf : Go K (pc + 3) ls st h ob) : Go K pc ls (vI y :: vI x :: st) h (if y ≤ x then oa else ob) := by
  intro r h' ho
  by_cases hc : y ≤ x
  · rw [if_pos hc] at ho
    exact ⟨(kt r h' ho).1, fun a H locs lsA hP hS hl => lv_icmp_ge hK.1 hK.2.1 d t (fun _ => (kt r h' ho).2 a H locs lsA hP hS hl) (fun hn => absurd hc hn)⟩
  · rw [if_neg hc] at ho
    exact ⟨(kf r h' ho).1, fun a H locs lsA hP hS hl => lv_icmp_ge hK.1 hK.2.1 d t (fun hn => absurd hn hc) (fun _ => (kf r h' ho).2 a H locs lsA hP hS hl)⟩
theorem go_ifgt (hK : KOK K own cc ret) {x : Int32} {off : Int} {tgt : Nat} {oa ob : Option (α × AH)} (d : decode cc pc = .ok (.ifCond .gt off, 3)) (t : (pc : Int) + off = (tgt : Int)) (kt : Go K tgt ls st h oa) (kf : Go K (pc + 3) ls st h ob) : Go K pc ls (vI x :: st) h (if 0 < x then oa else ob) := by
  intro r h' ho
  by_cases hc : 0 < x
  · rw [if_pos hc] at ho
    exact ⟨(kt r h' ho).1, fun a H locs lsA hP hS hl => lv_if_gt hK.1 hK.2.1 d t (fun _ => (kt r h' ho).2 a H locs lsA hP hS hl) (fun hn => absurd hc hn)⟩
  · rw [if_neg hc] at ho
    exact ⟨(kf r h' ho).1, fun a H locs lsA hP hS hl => lv_if_gt hK.1 hK.2.1 d t (fun hn => absurd hn hc) (fun _ => (kf r h' ho).2 a H locs lsA hP hS hl)⟩
theorem go_icmpgt (hK : KOK K own cc ret) {x y : Int32} {off : Int} {tgt : Nat} {oa ob : Option (α × AH)} (d : decode cc pc = .ok (.if_icmp .gt off, 3)) (t : (pc : Int) + off = (tgt : Int)) (kt : Go K tgt ls st h oa) (kf : Go K (pc + 3) ls st h ob) : Go K pc ls (vI y :: vI x :: st) h (if y < x then oa else ob) := by
  intro r h' ho
  by_cases hc : y < x
  · rw [if_pos hc] at ho
    exact ⟨(kt r h' ho).1, fun a H locs lsA hP hS hl => lv_icmp_gt hK.1 hK.2.1 d t (fun _ => (kt r h' ho).2 a H locs lsA hP hS hl) (fun hn => absurd hc hn)⟩
  · rw [if_neg hc] at ho
    exact ⟨(kf r h' ho).1, fun a H locs lsA hP hS hl => lv_icmp_gt hK.1 hK.2.1 d t (fun hn => absurd hn hc) (fun _ => (kf r h' ho).2 a H locs lsA hP hS hl)⟩
theorem go_ifle (hK : KOK K own cc ret) {x : Int32} {off : Int} {tgt : Nat} {oa ob : Option (α × AH)} (d : decode cc pc = .ok (.ifCond .le off, 3)) (t : (pc : Int) + off = (tgt : Int)) (kt : Go K tgt ls st h oa) (kf : Go K (pc + 3) ls st h ob) : Go K pc ls (vI x :: st) h (if x ≤ 0 then oa else ob) := by
  intro r h' ho
  by_cases hc : x ≤ 0
  · rw [if_pos hc] at ho
    exact ⟨(kt r h' ho).1, fun a H locs lsA hP hS hl => lv_if_le hK.1 hK.2.1 d t (fun _ => (kt r h' ho).2 a H locs lsA hP hS hl) (fun hn => absurd hc hn)⟩
  · rw [if_neg hc] at ho
    exact ⟨(kf r h' ho).1, fun a H locs lsA hP hS hl => lv_if_le hK.1 hK.2.1 d t (fun hn => absurd hn hc) (fun _ => (kf r h' ho).2 a H locs lsA hP hS hl)⟩
theorem go_icmple (hK : KOK K own cc ret) {x y : Int32} {off : Int} {tgt : Nat} {oa ob : Option (α × AH)} (d : decode cc pc = .ok (.if_icmp .le off, 3)) (t : (pc : Int) + off = (tgt : Int)) (kt : Go K tgt ls st h oa) (kf : Go K (pc + 3) ls st h ob) : Go K pc ls (vI y :: vI x :: st) h (if x ≤ y then oa else ob) := by
  intro r h' ho
  by_cases hc : x ≤ y
  · rw [if_pos hc] at ho
    exact ⟨(kt r h' ho).1, fun a H locs lsA hP hS hl => lv_icmp_le hK.1 hK.2.1 d t (fun _ => (kt r h' ho).2 a H locs lsA hP hS hl) (fun hn => absurd hc hn)⟩
  · rw [if_neg hc] at ho
    exact ⟨(kf r h' ho).1, fun a H locs lsA hP hS hl => lv_icmp_le hK.1 hK.2.1 d t (fun hn => absurd hn hc) (fun _ => (kf r h' ho).2 a H locs lsA hP hS hl)⟩
theorem go_ifnull (hK : KOK K own cc ret) {x : Option Nat} {off : Int} {tgt : Nat} {oa ob : Option (α × AH)} (d : decode cc pc = .ok (.ifnull off, 3)) (t : (pc : Int) + off = (tgt : Int)) (kt : Go K tgt ls st h oa) (kf : Go K (pc + 3) ls st h ob) : Go K pc ls (vR x :: st) h (if x = none then oa else ob) := by
  cases x with
  | none => rw [if_pos rfl]; exact go_step kt (fun _ _ _ _ _ _ _ _ w => lv_ifnullN hK.1 hK.2.1 d t w)
  | some a => rw [if_neg (fun e => by cases e)]; exact go_step kf (fun _ _ _ _ _ _ _ _ w => lv_ifnull hK.1 hK.2.1 d w)
theorem go_ifnonnull (hK : KOK K own cc ret) {x : Option Nat} {off : Int} {tgt : Nat} {oa ob : Option (α × AH)} (d : decode cc pc = .ok (.ifnonnull off, 3)) (t : (pc : Int) + off = (tgt : Int)) (kt : Go K tgt ls st h oa) (kf : Go K (pc + 3) ls st h ob) : Go K pc ls (vR x :: st) h (if x = none then ob else oa) := by
  cases x with
  | none => rw [if_pos rfl]; exact go_step kf (fun _ _ _ _ _ _ _ _ w => lv_ifnonnullN hK.1 hK.2.1 d w)
  | some a => rw [if_neg (fun e => by cases e)]; exact go_step kt (fun _ _ _ _ _ _ _ _ w => lv_ifnonnull hK.1 hK.2.1 d t w)
/-- a switch, key by key -/
theorem go_tsIn (hK : KOK K own cc ret) {dflt lo hi off : Int} {offs : Array Int} {len tgt : Nat} {x c : Int32} {oa ob : Option (α × AH)} (d : decode cc pc = .ok (.tableswitch dflt lo hi offs, len)) (h1 : ¬ c.toInt < lo) (h2 : ¬ hi < c.toInt) (ho : offs[(c.toInt - lo).toNat]? = some off) (t : (pc : Int) + off = (tgt : Int)) (kt : Go K tgt ls st h oa) (kf : ¬ x = c → Go K pc ls (vI x :: st) h ob) : Go K pc ls (vI x :: st) h (if x = c then oa else ob) := by
  by_cases hc : x = c
  · subst hc
    rw [if_pos rfl]
    exact go_step kt (fun _ _ _ _ _ _ _ _ w => lv_tableIn hK.1 hK.2.1 d h1 h2 ho t w)
  · rw [if_neg hc]
    exact kf hc
theorem go_tsOut (hK : KOK K own cc ret) {dflt lo hi : Int} {offs : Array Int} {len tgt : Nat} {x : Int32} (d : decode cc pc = .ok (.tableswitch dflt lo hi offs, len)) (hx : x.toInt < lo ∨ hi < x.toInt) (t : (pc : Int) + dflt = (tgt : Int)) (k : Go K tgt ls st h o) : Go K pc ls (vI x :: st) h o :=
  go_step k (fun _ _ _ _ _ _ _ _ w => lv_tableOut hK.1 hK.2.1 d hx t w)
theorem go_lsIn (hK : KOK K own cc ret) {dflt off : Int} {ps : Array (Int × Int)} {len tgt : Nat} {x c : Int32} {oa ob : Option (α × AH)} (d : decode cc pc = .ok (.lookupswitch dflt ps, len)) (hp : (ps.toList.zip (ps.toList.drop 1)).all (fun (a, next) => a.1 < next.1) = true) (ho : Op.lookupswitch.offset ps.toList dflt c.toInt = off) (t : (pc : Int) + off = (tgt : Int)) (kt : Go K tgt ls st h oa) (kf : ¬ x = c → Go K pc ls (vI x :: st) h ob) : Go K pc ls (vI x :: st) h (if x = c then oa else ob) := by
  by_cases hc : x = c
  · subst hc
    rw [if_pos rfl]
    exact go_step kt (fun _ _ _ _ _ _ _ _ w => lv_lookup hK.1 hK.2.1 d hp ho t w)
  · rw [if_neg hc]
    exact kf hc
theorem go_lsOut (hK : KOK K own cc ret) {dflt : Int} {ps : Array (Int × Int)} {len tgt : Nat} {x : Int32} (d : decode cc pc = .ok (.lookupswitch dflt ps, len)) (hp : (ps.toList.zip (ps.toList.drop 1)).all (fun (a, next) => a.1 < next.1) = true) (ho : Op.lookupswitch.offset ps.toList dflt x.toInt = dflt) (t : (pc : Int) + dflt = (tgt : Int)) (k : Go K tgt ls st h o) : Go K pc ls (vI x :: st) h o :=
  go_step k (fun _ _ _ _ _ _ _ _ w => lv_lookup hK.1 hK.2.1 d hp ho t w)
/-- a name for an int that was computed; for a long -/
def nm {β γ : Type} (x : β) (f : β → γ) : γ := f x
theorem go_nmI {x : Int32} {f : Int32 → Option (α × AH)} (k : ∀ y : Int32, Go K pc ls (vI y :: st) h (f y)) : Go K pc ls (vI x :: st) h (nm x f) := k x
theorem go_nmJ {x : Int64} {f : Int64 → Option (α × AH)} (k : ∀ y : Int64, Go K pc ls (vJ y :: st) h (f y)) : Go K pc ls (vJ x :: st) h (nm x f) := k x
end STEPS2
end
section
/-! FIELDS AND ROWS -/
def gI (h : AH) (o : Option Nat) (fam : List Nat) (k : Nat) : Option Int32 := match o with
  | none => none
  | some a => match aT h a with
    | some (.inr ci) => if ci ∈ fam then some (aI h a k) else none
    | _ => none
def gR (h : AH) (o : Option Nat) (fam : List Nat) (k : Nat) : Option (Option Nat) := match o with
  | none => none
  | some a => match aT h a with
    | some (.inr ci) => if ci ∈ fam then some (aR h a k) else none
    | _ => none
def pI (h : AH) (o : Option Nat) (fam : List Nat) (k : Nat) (v : Int32) : Option AH := match o with
  | none => none
  | some a => match aT h a with
    | some (.inr ci) => if ci ∈ fam then some (wI h a (va_up (aI h a) k v)) else none
    | _ => none
def pR (h : AH) (o : Option Nat) (fam : List Nat) (k : Nat) (v : Option Nat) : Option AH := match o with
  | none => none
  | some a => match aT h a with
    | some (.inr ci) => if ci ∈ fam then some (wR h a (va_up (aR h a) k v)) else none
    | _ => none
/-- the array's kind and length -/
def aK (h : AH) (o : Option Nat) : Option (Nat × Nat × Nat) := match o with
  | none => none
  | some a => match aT h a with
    | some (.inl q) => some (a, q.1, q.2)
    | _ => none
def iA (h : AH) (o : Option Nat) (i : Int32) : Option Int32 := match o with
  | none => none
  | some a => match aT h a with
    | some (.inl (0, n)) => if i < 0 ∨ n ≤ i.toNatClampNeg then none else some (aI h a i.toNatClampNeg)
    | _ => none
def jA (h : AH) (o : Option Nat) (i : Int32) : Option Int64 := match o with
  | none => none
  | some a => match aT h a with
    | some (.inl (1, n)) => if i < 0 ∨ n ≤ i.toNatClampNeg then none else some (aL h a i.toNatClampNeg)
    | _ => none
def rA (h : AH) (o : Option Nat) (kd : Nat) (i : Int32) : Option (Option Nat) := match o with
  | none => none
  | some a => match aT h a with
    | some (.inl (k, n)) => if k = kd ∧ ¬ (i < 0 ∨ n ≤ i.toNatClampNeg) then some (aR h a i.toNatClampNeg) else none
    | _ => none
def iS (h : AH) (o : Option Nat) (i v : Int32) : Option AH := match o with
  | none => none
  | some a => match aT h a with
    | some (.inl (0, n)) => if i < 0 ∨ n ≤ i.toNatClampNeg then none else some (wI h a (va_up (aI h a) i.toNatClampNeg v))
    | _ => none
def jS (h : AH) (o : Option Nat) (i : Int32) (v : Int64) : Option AH := match o with
  | none => none
  | some a => match aT h a with
    | some (.inl (1, n)) => if i < 0 ∨ n ≤ i.toNatClampNeg then none else some (wL h a (va_up (aL h a) i.toNatClampNeg v))
    | _ => none
/-- v is null or an object of the family -/
def fits1 (h : AH) (fam : List Nat) (v : Option Nat) : Bool := match v with
  | none => true
  | some b => match aT h b with
    | some (.inr ci) => decide (ci ∈ fam)
    | _ => false
def rS (h : AH) (o : Option Nat) (kd : Nat) (fam : List Nat) (i : Int32) (v : Option Nat) : Option AH := match o with
  | none => none
  | some a => match aT h a with
    | some (.inl (k, n)) => if k = kd ∧ ¬ (i < 0 ∨ n ≤ i.toNatClampNeg) ∧ fits1 h fam v = true then some (wR h a (va_up (aR h a) i.toNatClampNeg v)) else none
    | _ => none
def lenA (h : AH) (o : Option Nat) : Option Int32 := match o with
  | none => none
  | some a => match aT h a with
    | some (.inl q) => some (Int32.ofNat q.2)
    | _ => none
def nA (h : AH) (kd : Nat) (n : Int32) : Option (Option Nat × AH) := if n < 0 ∨ 1000000 < n.toNatClampNeg then none else some (some (aN h), nwH h (.inl (kd, n.toNatClampNeg)) n.toNatClampNeg)
def nO (h : AH) (ci N : Nat) : Option (Option Nat × AH) := some (some (aN h), nwH h (.inr ci) N)
def bd {β γ : Type} (o : Option (β × AH)) (f : β → AH → Option γ) : Option γ := match o with
  | none => none
  | some q => f q.1 q.2
/-- a class of the tables -/
def clsOK (ci : Nat) (C : String) (T : u_T) (N : Nat) : Prop := vwCl[ci]? = some (C, T, N) ∧ (∀ w ∈ u_ws C T N, w ∈ Tg) ∧ ∃ ty : Nat → FieldType, (∀ k, k < N → parseFieldDescriptor (T k).2.2.1 = some (ty k)) ∧ (∀ a, a < N → ∀ b, b < N → a ≠ b → (T a).2.1 ≠ (T b).2.1) ∧ ∀ j, j < N → defaultValue (ty j) = if (fty ci).getD j true = true then .int 0 else .null
/-- the field k of each class of the family is ref's nm -/
def famOK (fam : List Nat) (k : Nat) (ref nm ds : String) (b fin : Bool) : Prop := ∀ ci ∈ fam, ∃ (C : String) (T : u_T) (N : Nat), clsOK ci C T N ∧ k < N ∧ (T k).2.1 = nm ∧ (T k).2.2.1 = ds ∧ (T k).2.2.2 = fin ∧ ((T k).1 = ref ∨ Cond.sameField ref (T k).1 nm ds ∈ Tg) ∧ (fty ci).getD k true = b
theorem HP.set {X : GX} {h h' : AH} {H H' : Heap} {a : Nat} {ty : AT} (hP : HP X h H) (hT : aT h a = some ty) (z : H'.size = H.size) (oq : ∀ q, q ≠ X.2.2.2.1 + a → H'[q]? = H[q]?) (e1 : aN h' = aN h) (e2 : aT h' = aT h) (eI : ∀ b, b ≠ a → aI h' b = aI h b) (eL : ∀ b, b ≠ a → aL h' b = aL h b) (eR : ∀ b, b ≠ a → aR h' b = aR h b) (hc : cAt X h' a ty H') : HP X h' H' := by
  refine ⟨by rw [z, e1]; exact hP.1, fun b ty' hb => ?_⟩
  rw [e2] at hb
  obtain ⟨g1, g2⟩ := hP.2 b ty' hb
  refine ⟨by rw [e1]; exact g1, ?_⟩
  by_cases hba : b = a
  · subst hba
    have : ty' = ty := Option.some.inj (hb.symm.trans hT)
    subst this
    exact hc
  · have hq : H'[X.2.2.2.1 + b]? = H[X.2.2.2.1 + b]? := oq _ (by omega)
    have f1 : elV X.2.2.2.1 h' b = elV X.2.2.2.1 h b := by funext k j; unfold elV; rw [eI b hba, eL b hba, eR b hba]
    have f2 : fiV X.2.2.2.1 h' b = fiV X.2.2.2.1 h b := by funext k j; unfold fiV; rw [eI b hba, eR b hba]
    rcases ty' with q | ci
    · show H'[_]? = _
      rw [hq, f1]
      exact g2
    · obtain ⟨r, r1, r2⟩ := g2
      refine ⟨r, r1, ?_⟩
      rw [f2]
      exact r2.kept hq
theorem HP.add {X : GX} {h : AH} {H H' : Heap} {ty : AT} {n : Nat} (hP : HP X h H) (z : H'.size = H.size + 1) (oq : ∀ q, q < H.size → H'[q]? = H[q]?) (hc : cAt X (nwH h ty n) (aN h) ty H') : HP X (nwH h ty n) H' := by
  refine ⟨by rw [z, hP.1]; show _ = _ + (h.1.1 + 1); show X.2.2.2.1 + h.1.1 + 1 = _; omega, fun b ty' hb => ?_⟩
  by_cases hba : b = aN h
  · subst hba
    have : ty' = ty := by
      have h1 : va_up h.2.1 h.1.1 (some ty) h.1.1 = some ty' := hb
      rw [va_up_self] at h1
      exact (Option.some.inj h1).symm
    subst this
    exact ⟨Nat.lt_succ_self _, hc⟩
  · have hb2 : aT h b = some ty' := by
      have h1 : va_up h.2.1 h.1.1 (some ty) b = some ty' := hb
      exact (va_up_ne h.2.1 (some ty) (k := h.1.1) hba).symm.trans h1
    obtain ⟨g1, g2⟩ := hP.2 b ty' hb2
    have hq : H'[X.2.2.2.1 + b]? = H[X.2.2.2.1 + b]? := oq _ (by rw [hP.1]; omega)
    have eI : aI (nwH h ty n) b = aI h b := va_up_ne _ _ hba
    have eL : aL (nwH h ty n) b = aL h b := va_up_ne _ _ hba
    have eR : aR (nwH h ty n) b = aR h b := va_up_ne _ _ hba
    have f1 : elV X.2.2.2.1 (nwH h ty n) b = elV X.2.2.2.1 h b := by funext k j; unfold elV; rw [eI, eL, eR]
    have f2 : fiV X.2.2.2.1 (nwH h ty n) b = fiV X.2.2.2.1 h b := by funext k j; unfold fiV; rw [eI, eR]
    refine ⟨Nat.lt_succ_of_lt g1, ?_⟩
    rcases ty' with q | ci
    · show H'[_]? = _
      rw [hq, f1]
      exact g2
    · obtain ⟨r, r1, r2⟩ := g2
      refine ⟨r, r1, ?_⟩
      rw [f2]
      exact r2.kept hq
end
section
section FLD
variable {α : Type} {K : CX α} {own : String} {cc : ByteArray} {ret : Option FieldType} {pc : Nat} {ls : List (Nat × AV)} {st : List AV} {h : AH}
theorem gI_some {o : Option Nat} {fam : List Nat} {k : Nat} {x : Int32} (e : gI h o fam k = some x) : ∃ a ci, o = some a ∧ aT h a = some (.inr ci) ∧ ci ∈ fam ∧ aI h a k = x := by
  unfold gI at e
  split at e
  · cases e
  · split at e
    · split at e
      · exact ⟨_, _, rfl, by assumption, by assumption, Option.some.inj e⟩
      · cases e
    · cases e
theorem gR_some {o : Option Nat} {fam : List Nat} {k : Nat} {x : Option Nat} (e : gR h o fam k = some x) : ∃ a ci, o = some a ∧ aT h a = some (.inr ci) ∧ ci ∈ fam ∧ aR h a k = x := by
  unfold gR at e
  split at e
  · cases e
  · split at e
    · split at e
      · exact ⟨_, _, rfl, by assumption, by assumption, Option.some.inj e⟩
      · cases e
    · cases e
theorem pI_some {o : Option Nat} {fam : List Nat} {k : Nat} {v : Int32} {h' : AH} (e : pI h o fam k v = some h') : ∃ a ci, o = some a ∧ aT h a = some (.inr ci) ∧ ci ∈ fam ∧ wI h a (va_up (aI h a) k v) = h' := by
  unfold pI at e
  split at e
  · cases e
  · split at e
    · split at e
      · exact ⟨_, _, rfl, by assumption, by assumption, Option.some.inj e⟩
      · cases e
    · cases e
theorem pR_some {o : Option Nat} {fam : List Nat} {k : Nat} {v : Option Nat} {h' : AH} (e : pR h o fam k v = some h') : ∃ a ci, o = some a ∧ aT h a = some (.inr ci) ∧ ci ∈ fam ∧ wR h a (va_up (aR h a) k v) = h' := by
  unfold pR at e
  split at e
  · cases e
  · split at e
    · split at e
      · exact ⟨_, _, rfl, by assumption, by assumption, Option.some.inj e⟩
      · cases e
    · cases e
/-- the field's facts at an object of the family -/
theorem fld_at (hK : KOK K own cc ret) {fam : List Nat} {k : Nat} {ref nm ds : String} {b fin : Bool} (hf : famOK fam k ref nm ds b fin) {a ci : Nat} (hci : ci ∈ fam) (hT : aT h a = some (.inr ci)) {H : Heap} (hP : HP K.1 h H) :
    ∃ (C : String) (T : u_T) (N : Nat) (cell : Cell) (cf : ClassId) (kf : Class) (fi : Nat) (f : Field) (kC : Class), clsOK ci C T N ∧ k < N ∧ (T k).2.1 = nm ∧ (T k).2.2.1 = ds ∧ (T k).2.2.2 = fin ∧ (fty ci).getD k true = b ∧
      H[K.1.2.2.2.1 + a]? = some cell ∧ cell.cls = K.1.2.2.2.2.1.1 ci ∧ cell.vm = .none ∧ (∀ j, j < N → cell.slots[K.1.2.2.2.2.1.2 ci j]? = some (fiV K.1.2.2.2.1 h a ci j)) ∧
      K.2.1.2.2.1.fieldFound? (T k).1 nm ds = some (cf, kf, fi, f) ∧ K.2.1.2.2.1.fieldFound? ref nm ds = some (cf, kf, fi, f) ∧ f.slot = K.1.2.2.2.2.1.2 ci k ∧ f.isStatic = false ∧ K.2.1.2.2.1.vm.findClass C = some (K.1.2.2.2.2.1.1 ci) ∧ K.2.1.2.2.1.vm.classes[K.1.2.2.2.2.1.1 ci]? = some kC ∧ kC.kind = .ordinary := by
  obtain ⟨C, T, N, hc, hk, e1, e2, e3, e4, e5⟩ := hf ci hci
  obtain ⟨-, r, r1, cell, q1, q2, q3, q4⟩ := hP.2 a _ hT
  have hr : r = (C, T, N) := Option.some.inj (r1.symm.trans hc.1)
  subst hr
  obtain ⟨hS, hfc, kC, hkC, hkind⟩ := hK.vk.1 ci _ hc.1
  obtain ⟨cf, kf, fi, f, hi, hsl⟩ := hS k hk
  have hst := (u_facts hfc hkC (u_lays hK.hts hc.2.1 hk) hi).1
  refine ⟨C, T, N, cell, cf, kf, fi, f, kC, hc, hk, e1, e2, e3, e5, q1, q2, q3, q4, by rw [← e1, ← e2]; exact hi, ?_, hsl, hst, hfc, hkC, hkind⟩
  rcases e4 with e4 | e4
  · rw [← e1, ← e2, ← e4]; exact hi
  · exact u_same (hK.hts _ e4) _ (by rw [← e1, ← e2]; exact hi)
theorem go_getI (hK : KOK K own cc ret) {fam : List Nat} {k : Nat} {ref nm ds : String} {fin : Bool} {idx : Nat} (hl : Cond.fieldLink own idx ref nm ds ∈ Tg) (hf : famOK fam k ref nm ds true fin) {o : Option Nat} {f : Int32 → Option (α × AH)} (d : decode cc pc = .ok (.getfield idx, 3)) (kk : ∀ x, Go K (pc + 3) ls (vI x :: st) h (f x)) : Go K pc ls (vR o :: st) h ((gI h o fam k).bind f) := by
  intro r h' ho
  cases e : gI h o fam k with
  | none => rw [e] at ho; cases ho
  | some x =>
    rw [e] at ho
    obtain ⟨a, ci, rfl, hT, hci, hx⟩ := gI_some e
    obtain ⟨m1, m2⟩ := kk x r h' ho
    refine ⟨m1, fun ha H locs lsA hP hS hls => ?_⟩
    obtain ⟨C, T, N, cell, cf, kf, fi, fd, kC, hc, hk, e1, e2, e3, e5, q1, q2, q3, q4, hi, hi2, hsl, hst, -⟩ := fld_at hK hf hci hT hP
    refine W.getf hK.1 hK.2.1 hK.2.2.2.1 (hK.hts _ hl) hi2 hst q1 (by rw [q3]; exact fun z => by cases z) (v := .int x) ?_ rfl rfl d (m2 ha H locs lsA hP hS hls)
    rw [hsl, q4 k hk]
    unfold fiV
    rw [if_pos e5, hx]
theorem go_getR (hK : KOK K own cc ret) {fam : List Nat} {k : Nat} {ref nm ds : String} {fin : Bool} {idx : Nat} (hl : Cond.fieldLink own idx ref nm ds ∈ Tg) (hf : famOK fam k ref nm ds false fin) {o : Option Nat} {f : Option Nat → Option (α × AH)} (d : decode cc pc = .ok (.getfield idx, 3)) (kk : ∀ x, Go K (pc + 3) ls (vR x :: st) h (f x)) : Go K pc ls (vR o :: st) h ((gR h o fam k).bind f) := by
  intro r h' ho
  cases e : gR h o fam k with
  | none => rw [e] at ho; cases ho
  | some x =>
    rw [e] at ho
    obtain ⟨a, ci, rfl, hT, hci, hx⟩ := gR_some e
    obtain ⟨m1, m2⟩ := kk x r h' ho
    refine ⟨m1, fun ha H locs lsA hP hS hls => ?_⟩
    obtain ⟨C, T, N, cell, cf, kf, fi, fd, kC, hc, hk, e1, e2, e3, e5, q1, q2, q3, q4, hi, hi2, hsl, hst, -⟩ := fld_at hK hf hci hT hP
    refine W.getf hK.1 hK.2.1 hK.2.2.2.1 (hK.hts _ hl) hi2 hst q1 (by rw [q3]; exact fun z => by cases z) (v := rv K.1.2.2.2.1 x) ?_ rfl rfl d (m2 ha H locs lsA hP hS hls)
    rw [hsl, q4 k hk]
    unfold fiV
    rw [if_neg (by rw [e5]; decide), hx]
/-- the heap behind a store into a field -/
theorem fld_put {X : GX} {H H' : Heap} {a ci k N : Nat} {C : String} {T : u_T} {cell : Cell} {h' : AH} {v : Value} {s : State} {A : Array Value} {tys : List (ClassId × FieldType)} (hc : clsOK ci C T N) (hk : k < N) (hvk : va_K X.2.2.2.2.1 vwCl tys s) (hts : ∀ w ∈ Tg, w.before A s = true) (hP : HP X h H) (hT : aT h a = some (.inr ci)) (q2 : cell.cls = X.2.2.2.2.1.1 ci) (q3 : cell.vm = .none) (q4 : ∀ j, j < N → cell.slots[X.2.2.2.2.1.2 ci j]? = some (fiV X.2.2.2.1 h a ci j))
    (e1 : H'[X.2.2.2.1 + a]? = some (cell.setSlot (X.2.2.2.2.1.2 ci k) v)) (z : H'.size = H.size) (oq : ∀ q, q ≠ X.2.2.2.1 + a → H'[q]? = H[q]?) (en : aN h' = aN h) (eT : aT h' = aT h) (eI : ∀ b, b ≠ a → aI h' b = aI h b) (eL : ∀ b, b ≠ a → aL h' b = aL h b) (eR : ∀ b, b ≠ a → aR h' b = aR h b) (ev : ∀ j, j < N → updV (fiV X.2.2.2.1 h a ci) k v j = fiV X.2.2.2.1 h' a ci j) : HP X h' H' := by
  obtain ⟨hc1, hin, ty, hty, hnm, -⟩ := hc
  have hap := va_apart (own := C) hts hin ty hty hnm hvk hc1
  exact hP.set hT z oq en eT eI eL eR ⟨_, hc1, t_OB.to (V := updV (fiV X.2.2.2.1 h a ci) k v) ⟨_, e1, q2, q3, t_set q4 hap hk v⟩ ev⟩
theorem updV_I {B a ci k N : Nat} {v : Int32} (e : (fty ci).getD k true = true) : ∀ j, j < N → updV (fiV B h a ci) k (.int v) j = fiV B (wI h a (va_up (aI h a) k v)) a ci j := by
  intro j _
  unfold updV fiV
  have e1 : aI (wI h a (va_up (aI h a) k v)) a = va_up (aI h a) k v := va_up_self _ _ _
  rw [e1]
  by_cases hj : j = k
  · subst hj
    rw [if_pos rfl, if_pos e, va_up_self]
  · rw [if_neg hj, va_up_ne _ _ hj]
    rfl
theorem updV_R {B a ci k N : Nat} {v : Option Nat} (e : (fty ci).getD k true = false) : ∀ j, j < N → updV (fiV B h a ci) k (rv B v) j = fiV B (wR h a (va_up (aR h a) k v)) a ci j := by
  intro j _
  unfold updV fiV
  have e1 : aR (wR h a (va_up (aR h a) k v)) a = va_up (aR h a) k v := va_up_self _ _ _
  rw [e1]
  by_cases hj : j = k
  · subst hj
    rw [if_pos rfl, if_neg (by rw [e]; decide), va_up_self]
  · rw [if_neg hj, va_up_ne _ _ hj]
    rfl
end FLD
end
section
section PUT
variable {α : Type} {K : CX α} {own : String} {cc : ByteArray} {ret : Option FieldType} {pc : Nat} {ls : List (Nat × AV)} {st : List AV} {h : AH}
theorem aLe_of {h h2 h' : AH} (e : h2.1 = h.1) (m : aLe h2 h') : aLe h h' := by
  unfold aLe aN aS at *
  rw [e] at m
  exact m
theorem go_putI (hK : KOK K own cc ret) {fam : List Nat} {k : Nat} {ref nm ds : String} {idx : Nat} (hl : Cond.fieldLink own idx ref nm ds ∈ Tg) (hf : famOK fam k ref nm ds true false) {ty : FieldType} (hd : parseFieldDescriptor ds = some ty) {o : Option Nat} {v : Int32} (hn : narrow ty (.int v) = .int v) (hft : fits ty (.int v) = true) {f : AH → Option (α × AH)} (d : decode cc pc = .ok (.putfield idx, 3)) (kk : ∀ h2, Go K (pc + 3) ls st h2 (f h2)) : Go K pc ls (vI v :: vR o :: st) h ((pI h o fam k v).bind f) := by
  intro r h' ho
  cases e : pI h o fam k v with
  | none => rw [e] at ho; cases ho
  | some h2 =>
    rw [e] at ho
    obtain ⟨a, ci, rfl, hT, hci, rfl⟩ := pI_some e
    obtain ⟨m1, m2⟩ := kk _ r h' ho
    refine ⟨aLe_of (h2 := wI h a (va_up (aI h a) k v)) rfl m1, fun ha H locs lsA hP hS hls => ?_⟩
    obtain ⟨C, T, N, cell, cf, kf, fi, fd, kC, hc, hk, e1, e2, e3, e5, q1, q2, q3, q4, hi, hi2, hsl, hst, hfc, hkC, hkind⟩ := fld_at hK hf hci hT hP
    have hlay := hK.hts _ (hc.2.1 _ (u_in_lay hk))
    unfold u_lay at hlay
    rw [if_neg (by rw [e3]; decide), e1, e2] at hlay
    have h6 := u_store hfc hkC hkind hlay hi hd hn hft
    refine W.putK hK.1 hK.2.1 (f := fd) ⟨hK.2.2.2.1, hK.hts _ hl, ⟨_, _, _, hi2⟩, hst⟩ (by rw [q2]; exact h6) q1 q3 (by rw [hsl]; exact k2_hasslot (q4 k hk)) rfl rfl d fun H1 b1 b2 b3 => ?_
    rw [hsl] at b1 ⊢
    exact m2 ha H1 _ lsA (fld_put hc hk hK.vk hK.hts hP hT q2 q3 q4 b1 b2 b3 rfl rfl (fun b hb => va_up_ne _ _ hb) (fun _ _ => rfl) (fun _ _ => rfl) (updV_I e5)) (hS.put b2 b3 (Nat.le_add_right _ _)) hls
theorem go_putIF (hK : KOK K own cc ret) (hin : K.2.1.2.2.2.2.2.2.1.name = "<init>") {fam : List Nat} {k : Nat} {ref nm ds : String} {idx : Nat} (hl : Cond.fieldLink own idx ref nm ds ∈ Tg) (hf : famOK fam k ref nm ds true true) (hown : ∀ ci ∈ fam, ∀ C T N, vwCl[ci]? = some (C, T, N) → (T k).1 = own) {ty : FieldType} (hd : parseFieldDescriptor ds = some ty) {o : Option Nat} {v : Int32} (hn : narrow ty (.int v) = .int v) (hft : fits ty (.int v) = true) {f : AH → Option (α × AH)} (d : decode cc pc = .ok (.putfield idx, 3)) (kk : ∀ h2, Go K (pc + 3) ls st h2 (f h2)) : Go K pc ls (vI v :: vR o :: st) h ((pI h o fam k v).bind f) := by
  intro r h' ho
  cases e : pI h o fam k v with
  | none => rw [e] at ho; cases ho
  | some h2 =>
    rw [e] at ho
    obtain ⟨a, ci, rfl, hT, hci, rfl⟩ := pI_some e
    obtain ⟨m1, m2⟩ := kk _ r h' ho
    refine ⟨aLe_of (h2 := wI h a (va_up (aI h a) k v)) rfl m1, fun ha H locs lsA hP hS hls => ?_⟩
    obtain ⟨C, T, N, cell, cf, kf, fi, fd, kC, hc, hk, e1, e2, e3, e5, q1, q2, q3, q4, hi, hi2, hsl, hst, hfc, hkC, hkind⟩ := fld_at hK hf hci hT hP
    have hlay := hK.hts _ (hc.2.1 _ (u_in_lay hk))
    unfold u_lay at hlay
    rw [if_pos e3, e1, e2] at hlay
    have hcf : K.2.1.2.2.2.1.cls = cf := by
      obtain ⟨_, _, c', _, _, _, -, -, hf', -, -, -, hown2, -⟩ := Cond.laysFinal_spec hlay
      have z1 : c' = cf := by have := hi.symm.trans hf'; simp at this; exact this.1.symm
      rw [hown ci hci _ _ _ hc.1] at hown2
      rw [← z1]; exact Option.some.inj (hK.2.2.2.1.symm.trans hown2)
    have h6 := u_fits hfc hkC hkind (Or.inr hlay) hi hd hn hft
    refine W.putFinK hK.1 hK.2.1 hK.2.2.2.1 (hK.hts _ hl) hi2 hst hcf hin (by rw [q2]; exact h6) q1 q3 (by rw [hsl]; exact k2_hasslot (q4 k hk)) rfl rfl d fun H1 b1 b2 b3 => ?_
    rw [hsl] at b1 ⊢
    exact m2 ha H1 _ lsA (fld_put hc hk hK.vk hK.hts hP hT q2 q3 q4 b1 b2 b3 rfl rfl (fun b hb => va_up_ne _ _ hb) (fun _ _ => rfl) (fun _ _ => rfl) (updV_I e5)) (hS.put b2 b3 (Nat.le_add_right _ _)) hls
theorem go_putR (hK : KOK K own cc ret) {fam : List Nat} {k : Nat} {ref nm ds : String} {idx : Nat} (hl : Cond.fieldLink own idx ref nm ds ∈ Tg) (hf : famOK fam k ref nm ds false false) {ty : FieldType} (hd : parseFieldDescriptor ds = some ty) {o : Option Nat} {v : Option Nat} (hn : narrow ty (rv K.1.2.2.2.1 v) = rv K.1.2.2.2.1 v) (hft : fits ty (rv K.1.2.2.2.1 v) = true) {f : AH → Option (α × AH)} (d : decode cc pc = .ok (.putfield idx, 3)) (kk : ∀ h2, Go K (pc + 3) ls st h2 (f h2)) : Go K pc ls (vR v :: vR o :: st) h ((pR h o fam k v).bind f) := by
  intro r h' ho
  cases e : pR h o fam k v with
  | none => rw [e] at ho; cases ho
  | some h2 =>
    rw [e] at ho
    obtain ⟨a, ci, rfl, hT, hci, rfl⟩ := pR_some e
    obtain ⟨m1, m2⟩ := kk _ r h' ho
    refine ⟨aLe_of (h2 := wR h a (va_up (aR h a) k v)) rfl m1, fun ha H locs lsA hP hS hls => ?_⟩
    obtain ⟨C, T, N, cell, cf, kf, fi, fd, kC, hc, hk, e1, e2, e3, e5, q1, q2, q3, q4, hi, hi2, hsl, hst, hfc, hkC, hkind⟩ := fld_at hK hf hci hT hP
    have hlay := hK.hts _ (hc.2.1 _ (u_in_lay hk))
    unfold u_lay at hlay
    rw [if_neg (by rw [e3]; decide), e1, e2] at hlay
    have h6 := u_store hfc hkC hkind hlay hi hd hn hft
    refine W.putK hK.1 hK.2.1 (f := fd) ⟨hK.2.2.2.1, hK.hts _ hl, ⟨_, _, _, hi2⟩, hst⟩ (by rw [q2]; exact h6) q1 q3 (by rw [hsl]; exact k2_hasslot (q4 k hk)) rfl rfl d fun H1 b1 b2 b3 => ?_
    rw [hsl] at b1 ⊢
    exact m2 ha H1 _ lsA (fld_put hc hk hK.vk hK.hts hP hT q2 q3 q4 b1 b2 b3 rfl rfl (fun _ _ => rfl) (fun _ _ => rfl) (fun b hb => va_up_ne _ _ hb) (updV_R e5)) (hS.put b2 b3 (Nat.le_add_right _ _)) hls
theorem go_putRF (hK : KOK K own cc ret) (hin : K.2.1.2.2.2.2.2.2.1.name = "<init>") {fam : List Nat} {k : Nat} {ref nm ds : String} {idx : Nat} (hl : Cond.fieldLink own idx ref nm ds ∈ Tg) (hf : famOK fam k ref nm ds false true) (hown : ∀ ci ∈ fam, ∀ C T N, vwCl[ci]? = some (C, T, N) → (T k).1 = own) {ty : FieldType} (hd : parseFieldDescriptor ds = some ty) {o : Option Nat} {v : Option Nat} (hn : narrow ty (rv K.1.2.2.2.1 v) = rv K.1.2.2.2.1 v) (hft : fits ty (rv K.1.2.2.2.1 v) = true) {f : AH → Option (α × AH)} (d : decode cc pc = .ok (.putfield idx, 3)) (kk : ∀ h2, Go K (pc + 3) ls st h2 (f h2)) : Go K pc ls (vR v :: vR o :: st) h ((pR h o fam k v).bind f) := by
  intro r h' ho
  cases e : pR h o fam k v with
  | none => rw [e] at ho; cases ho
  | some h2 =>
    rw [e] at ho
    obtain ⟨a, ci, rfl, hT, hci, rfl⟩ := pR_some e
    obtain ⟨m1, m2⟩ := kk _ r h' ho
    refine ⟨aLe_of (h2 := wR h a (va_up (aR h a) k v)) rfl m1, fun ha H locs lsA hP hS hls => ?_⟩
    obtain ⟨C, T, N, cell, cf, kf, fi, fd, kC, hc, hk, e1, e2, e3, e5, q1, q2, q3, q4, hi, hi2, hsl, hst, hfc, hkC, hkind⟩ := fld_at hK hf hci hT hP
    have hlay := hK.hts _ (hc.2.1 _ (u_in_lay hk))
    unfold u_lay at hlay
    rw [if_pos e3, e1, e2] at hlay
    have hcf : K.2.1.2.2.2.1.cls = cf := by
      obtain ⟨_, _, c', _, _, _, -, -, hf', -, -, -, hown2, -⟩ := Cond.laysFinal_spec hlay
      have z1 : c' = cf := by have := hi.symm.trans hf'; simp at this; exact this.1.symm
      rw [hown ci hci _ _ _ hc.1] at hown2
      rw [← z1]; exact Option.some.inj (hK.2.2.2.1.symm.trans hown2)
    have h6 := u_fits hfc hkC hkind (Or.inr hlay) hi hd hn hft
    refine W.putFinK hK.1 hK.2.1 hK.2.2.2.1 (hK.hts _ hl) hi2 hst hcf hin (by rw [q2]; exact h6) q1 q3 (by rw [hsl]; exact k2_hasslot (q4 k hk)) rfl rfl d fun H1 b1 b2 b3 => ?_
    rw [hsl] at b1 ⊢
    exact m2 ha H1 _ lsA (fld_put hc hk hK.vk hK.hts hP hT q2 q3 q4 b1 b2 b3 rfl rfl (fun _ _ => rfl) (fun _ _ => rfl) (fun b hb => va_up_ne _ _ hb) (updV_R e5)) (hS.put b2 b3 (Nat.le_add_right _ _)) hls
end PUT
end
section
section ARR
variable {α : Type} {K : CX α} {own : String} {cc : ByteArray} {ret : Option FieldType} {pc : Nat} {ls : List (Nat × AV)} {st : List AV} {h : AH}
theorem arr_at (hK : KOK K own cc ret) {a k n : Nat} (hT : aT h a = some (.inl (k, n))) {H : Heap} (hP : HP K.1 h H) : H[K.1.2.2.2.1 + a]? = some (arrV (K.1.2.2.2.2.2 k) n (elV K.1.2.2.2.1 h a k)) := (hP.2 a _ hT).2
theorem tys_at (hK : KOK K own cc ret) (k : Nat) (hk : k < 4) : ArrOfT K.2.1.2.2.1 (K.1.2.2.2.2.2 k) (arT k) ∧ va_RA K.2.1.2.2.1 (K.1.2.2.2.2.2 k) (arT k) := by
  refine hK.vk.2 k (K.1.2.2.2.2.2 k, arT k) ?_
  rcases (show k = 0 ∨ k = 1 ∨ k = 2 ∨ k = 3 by omega) with rfl | rfl | rfl | rfl <;> rfl
theorem upd_el {B a k i : Nat} {v : Value} {h' : AH} (e : ∀ j, elV B h' a k j = if j = i then v else elV B h a k j) : updV (elV B h a k) i v = elV B h' a k := by
  funext j
  rw [e j]
  rfl
theorem iA_some {o : Option Nat} {i : Int32} {x : Int32} (e : iA h o i = some x) : ∃ a n, o = some a ∧ aT h a = some (.inl (0, n)) ∧ ¬ (i < 0 ∨ n ≤ i.toNatClampNeg) ∧ aI h a i.toNatClampNeg = x := by
  unfold iA at e
  split at e
  · cases e
  · split at e
    · split at e
      · cases e
      · exact ⟨_, _, rfl, by assumption, by assumption, Option.some.inj e⟩
    · cases e
theorem go_iaload (hK : KOK K own cc ret) {o : Option Nat} {i : Int32} {f : Int32 → Option (α × AH)} (d : decode cc pc = .ok (.iaload, 1)) (kk : ∀ x, Go K (pc + 1) ls (vI x :: st) h (f x)) : Go K pc ls (vI i :: vR o :: st) h ((iA h o i).bind f) := by
  intro r h' ho
  cases e : iA h o i with
  | none => rw [e] at ho; cases ho
  | some x =>
    rw [e] at ho
    obtain ⟨a, n, rfl, hT, hin, hx⟩ := iA_some e
    obtain ⟨m1, m2⟩ := kk x r h' ho
    refine ⟨m1, fun ha H locs lsA hP hS hls => ?_⟩
    have hlt : i.toNatClampNeg < n := Nat.not_le.mp fun q => hin (Or.inr q)
    refine W.iald (v := .int x) hK.1 hK.2.1 (arr_at hK hT hP) ((tys_at hK 0 (by decide)).1 n _) (fun q => by cases q) (by rw [arrV_size]; exact hin) (by rw [arrV_read _ _ hlt]; unfold elV; rw [← hx]; rfl) rfl rfl d (m2 ha H locs lsA hP hS hls)
theorem jA_some {o : Option Nat} {i : Int32} {x : Int64} (e : jA h o i = some x) : ∃ a n, o = some a ∧ aT h a = some (.inl (1, n)) ∧ ¬ (i < 0 ∨ n ≤ i.toNatClampNeg) ∧ aL h a i.toNatClampNeg = x := by
  unfold jA at e
  split at e
  · cases e
  · split at e
    · split at e
      · cases e
      · exact ⟨_, _, rfl, by assumption, by assumption, Option.some.inj e⟩
    · cases e
theorem go_laload (hK : KOK K own cc ret) {o : Option Nat} {i : Int32} {f : Int64 → Option (α × AH)} (d : decode cc pc = .ok (.laload, 1)) (kk : ∀ x, Go K (pc + 1) ls (vJ x :: st) h (f x)) : Go K pc ls (vI i :: vR o :: st) h ((jA h o i).bind f) := by
  intro r h' ho
  cases e : jA h o i with
  | none => rw [e] at ho; cases ho
  | some x =>
    rw [e] at ho
    obtain ⟨a, n, rfl, hT, hin, hx⟩ := jA_some e
    obtain ⟨m1, m2⟩ := kk x r h' ho
    refine ⟨m1, fun ha H locs lsA hP hS hls => ?_⟩
    have hlt : i.toNatClampNeg < n := Nat.not_le.mp fun q => hin (Or.inr q)
    refine W.lald (v := .long x) hK.1 hK.2.1 (arr_at hK hT hP) ((tys_at hK 1 (by decide)).1 n _) (fun q => by cases q) (by rw [arrV_size]; exact hin) (by rw [arrV_read _ _ hlt]; unfold elV; rw [← hx]; rfl) rfl rfl d (m2 ha H locs lsA hP hS hls)
theorem iS_some {o : Option Nat} {i v : Int32} {h2 : AH} (e : iS h o i v = some h2) : ∃ a n, o = some a ∧ aT h a = some (.inl (0, n)) ∧ ¬ (i < 0 ∨ n ≤ i.toNatClampNeg) ∧ wI h a (va_up (aI h a) i.toNatClampNeg v) = h2 := by
  unfold iS at e
  split at e
  · cases e
  · split at e
    · split at e
      · cases e
      · exact ⟨_, _, rfl, by assumption, by assumption, Option.some.inj e⟩
    · cases e
theorem go_iastore (hK : KOK K own cc ret) {o : Option Nat} {i v : Int32} {f : AH → Option (α × AH)} (d : decode cc pc = .ok (.iastore, 1)) (kk : ∀ h2, Go K (pc + 1) ls st h2 (f h2)) : Go K pc ls (vI v :: vI i :: vR o :: st) h ((iS h o i v).bind f) := by
  intro r h' ho
  cases e : iS h o i v with
  | none => rw [e] at ho; cases ho
  | some h2 =>
    rw [e] at ho
    obtain ⟨a, n, rfl, hT, hin, rfl⟩ := iS_some e
    obtain ⟨m1, m2⟩ := kk _ r h' ho
    refine ⟨aLe_of (h2 := wI h a (va_up (aI h a) i.toNatClampNeg v)) rfl m1, fun ha H locs lsA hP hS hls => ?_⟩
    refine W.iast hK.1 hK.2.1 (arr_at hK hT hP) ((tys_at hK 0 (by decide)).1 n _) (fun q => by cases q) (by rw [arrV_size]; exact hin) rfl rfl d fun H1 e1 z oq => ?_
    refine m2 ha H1 _ lsA (hP.set hT z oq rfl rfl (fun b hb => va_up_ne _ _ hb) (fun _ _ => rfl) (fun _ _ => rfl) ?_) (hS.put z oq (Nat.le_add_right _ _)) hls
    show H1[_]? = _
    rw [e1, arrV_store]
    refine congrArg (fun g => some (arrV _ n g)) (upd_el fun j => ?_)
    have q1 : aI (wI h a (va_up (aI h a) i.toNatClampNeg v)) a = va_up (aI h a) i.toNatClampNeg v := va_up_self _ _ _
    show (Value.int (aI (wI h a (va_up (aI h a) i.toNatClampNeg v)) a j) : Value) = if j = i.toNatClampNeg then Value.int v else Value.int (aI h a j)
    rw [q1]
    unfold va_up
    by_cases hj : j = i.toNatClampNeg
    · rw [if_pos hj, if_pos hj]
    · rw [if_neg hj, if_neg hj]
theorem jS_some {o : Option Nat} {i : Int32} {v : Int64} {h2 : AH} (e : jS h o i v = some h2) : ∃ a n, o = some a ∧ aT h a = some (.inl (1, n)) ∧ ¬ (i < 0 ∨ n ≤ i.toNatClampNeg) ∧ wL h a (va_up (aL h a) i.toNatClampNeg v) = h2 := by
  unfold jS at e
  split at e
  · cases e
  · split at e
    · split at e
      · cases e
      · exact ⟨_, _, rfl, by assumption, by assumption, Option.some.inj e⟩
    · cases e
theorem go_lastore (hK : KOK K own cc ret) {o : Option Nat} {i : Int32} {v : Int64} {f : AH → Option (α × AH)} (d : decode cc pc = .ok (.lastore, 1)) (kk : ∀ h2, Go K (pc + 1) ls st h2 (f h2)) : Go K pc ls (vJ v :: vI i :: vR o :: st) h ((jS h o i v).bind f) := by
  intro r h' ho
  cases e : jS h o i v with
  | none => rw [e] at ho; cases ho
  | some h2 =>
    rw [e] at ho
    obtain ⟨a, n, rfl, hT, hin, rfl⟩ := jS_some e
    obtain ⟨m1, m2⟩ := kk _ r h' ho
    refine ⟨aLe_of (h2 := wL h a (va_up (aL h a) i.toNatClampNeg v)) rfl m1, fun ha H locs lsA hP hS hls => ?_⟩
    refine W.last hK.1 hK.2.1 (arr_at hK hT hP) ((tys_at hK 1 (by decide)).1 n _) (fun q => by cases q) (by rw [arrV_size]; exact hin) rfl rfl d fun H1 e1 z oq => ?_
    refine m2 ha H1 _ lsA (hP.set hT z oq rfl rfl (fun _ _ => rfl) (fun b hb => va_up_ne _ _ hb) (fun _ _ => rfl) ?_) (hS.put z oq (Nat.le_add_right _ _)) hls
    show H1[_]? = _
    rw [e1, arrV_store]
    refine congrArg (fun g => some (arrV _ n g)) (upd_el fun j => ?_)
    have q1 : aL (wL h a (va_up (aL h a) i.toNatClampNeg v)) a = va_up (aL h a) i.toNatClampNeg v := va_up_self _ _ _
    show (Value.long (aL (wL h a (va_up (aL h a) i.toNatClampNeg v)) a j) : Value) = if j = i.toNatClampNeg then Value.long v else Value.long (aL h a j)
    rw [q1]
    unfold va_up
    by_cases hj : j = i.toNatClampNeg
    · rw [if_pos hj, if_pos hj]
    · rw [if_neg hj, if_neg hj]
theorem rA_some {o : Option Nat} {kd : Nat} {i : Int32} {x : Option Nat} (e : rA h o kd i = some x) : ∃ a n, o = some a ∧ aT h a = some (.inl (kd, n)) ∧ ¬ (i < 0 ∨ n ≤ i.toNatClampNeg) ∧ aR h a i.toNatClampNeg = x := by
  unfold rA at e
  split at e
  · cases e
  · split at e
    · rename_i k n hT
      split at e
      · rename_i hc
        obtain ⟨rfl, hc⟩ := hc
        exact ⟨_, _, rfl, hT, hc, Option.some.inj e⟩
      · cases e
    · cases e
theorem elV_R {B a k j : Nat} (h2 : 2 ≤ k) : elV B h a k j = rv B (aR h a j) := by
  unfold elV
  rw [if_neg (by omega), if_neg (by omega)]
theorem go_aaload (hK : KOK K own cc ret) {kd : Nat} (h2 : 2 ≤ kd) (h4 : kd < 4) {o : Option Nat} {i : Int32} {f : Option Nat → Option (α × AH)} (d : decode cc pc = .ok (.aaload, 1)) (kk : ∀ x, Go K (pc + 1) ls (vR x :: st) h (f x)) : Go K pc ls (vI i :: vR o :: st) h ((rA h o kd i).bind f) := by
  intro r h' ho
  cases e : rA h o kd i with
  | none => rw [e] at ho; cases ho
  | some x =>
    rw [e] at ho
    obtain ⟨a, n, rfl, hT, hin, hx⟩ := rA_some e
    obtain ⟨m1, m2⟩ := kk x r h' ho
    refine ⟨m1, fun ha H locs lsA hP hS hls => ?_⟩
    have hlt : i.toNatClampNeg < n := Nat.not_le.mp fun q => hin (Or.inr q)
    refine W.aald (v := rv K.1.2.2.2.1 x) (ty := arT kd) hK.1 hK.2.1 (arr_at hK hT hP) ((tys_at hK kd h4).1 n _) (by rcases (show kd = 2 ∨ kd = 3 by omega) with rfl | rfl <;> rfl) (fun q => by cases q) (by rw [arrV_size]; exact hin) (by rw [arrV_read _ _ hlt, elV_R h2, hx]) rfl rfl d (m2 ha H locs lsA hP hS hls)
theorem lenA_some {o : Option Nat} {x : Int32} (e : lenA h o = some x) : ∃ a k n, o = some a ∧ aT h a = some (.inl (k, n)) ∧ Int32.ofNat n = x := by
  unfold lenA at e
  split at e
  · cases e
  · split at e
    · rename_i q hT
      exact ⟨_, q.1, q.2, rfl, hT, Option.some.inj e⟩
    · cases e
end ARR
end
section
section NEW
variable {α : Type} {K : CX α} {own : String} {cc : ByteArray} {ret : Option FieldType} {pc : Nat} {ls : List (Nat × AV)} {st : List AV} {h : AH}
theorem go_alen (hK : KOK K own cc ret) {o : Option Nat} {f : Int32 → Option (α × AH)} (d : decode cc pc = .ok (.arraylength, 1)) (kk : ∀ x, Go K (pc + 1) ls (vI x :: st) h (f x)) (hk : ∀ a k n, aT h a = some (.inl (k, n)) → o = some a → k < 4) : Go K pc ls (vR o :: st) h ((lenA h o).bind f) := by
  intro r h' ho
  cases e : lenA h o with
  | none => rw [e] at ho; cases ho
  | some x =>
    rw [e] at ho
    obtain ⟨a, k, n, rfl, hT, hx⟩ := lenA_some e
    obtain ⟨m1, m2⟩ := kk x r h' ho
    refine ⟨m1, fun ha H locs lsA hP hS hls => ?_⟩
    exact W.alen (n := x) hK.1 hK.2.1 (arr_at hK hT hP) ((tys_at hK k (hk a k n hT rfl)).1 n _) (by rw [arrV_size]; exact hx) rfl rfl d (m2 ha H locs lsA hP hS hls)
/-- the length of an array of ints -/
def lenI (h : AH) (o : Option Nat) : Option Int32 := match o with
  | none => none
  | some a => match aT h a with
    | some (.inl (0, n)) => some (Int32.ofNat n)
    | _ => none
theorem lenI_some {o : Option Nat} {x : Int32} (e : lenI h o = some x) : ∃ a n, o = some a ∧ aT h a = some (.inl (0, n)) ∧ Int32.ofNat n = x := by
  unfold lenI at e
  split at e
  · cases e
  · split at e
    · exact ⟨_, _, rfl, by assumption, Option.some.inj e⟩
    · cases e
theorem go_alenI (hK : KOK K own cc ret) {o : Option Nat} {f : Int32 → Option (α × AH)} (d : decode cc pc = .ok (.arraylength, 1)) (kk : ∀ x, Go K (pc + 1) ls (vI x :: st) h (f x)) : Go K pc ls (vR o :: st) h ((lenI h o).bind f) := by
  intro r h' ho
  cases e : lenI h o with
  | none => rw [e] at ho; cases ho
  | some x =>
    rw [e] at ho
    obtain ⟨a, n, rfl, hT, hx⟩ := lenI_some e
    obtain ⟨m1, m2⟩ := kk x r h' ho
    refine ⟨m1, fun ha H locs lsA hP hS hls => ?_⟩
    exact W.alen (n := x) hK.1 hK.2.1 (arr_at hK hT hP) ((tys_at hK 0 (by decide)).1 n _) (by rw [arrV_size]; exact hx) rfl rfl d (m2 ha H locs lsA hP hS hls)
/-- objects of the family may lie in rows of kind kd -/
def asgOK (kd : Nat) (fam : List Nat) : Prop := ∃ E : String, arT kd = .object E ∧ ∀ ci ∈ fam, ∃ r : vw_C, vwCl[ci]? = some r ∧ (r.1 = E ∨ Cond.castable r.1 E ∈ lw_tbl)
theorem rS_some {o : Option Nat} {kd : Nat} {fam : List Nat} {i : Int32} {v : Option Nat} {h2 : AH} (e : rS h o kd fam i v = some h2) : ∃ a n, o = some a ∧ aT h a = some (.inl (kd, n)) ∧ ¬ (i < 0 ∨ n ≤ i.toNatClampNeg) ∧ fits1 h fam v = true ∧ wR h a (va_up (aR h a) i.toNatClampNeg v) = h2 := by
  unfold rS at e
  split at e
  · cases e
  · split at e
    · rename_i k n hT
      split at e
      · rename_i hc
        obtain ⟨rfl, h1, h2⟩ := hc
        exact ⟨_, _, rfl, hT, h1, h2, Option.some.inj e⟩
      · cases e
    · cases e
theorem fits1_some {fam : List Nat} {b : Nat} (e : fits1 h fam (some b) = true) : ∃ ci, aT h b = some (.inr ci) ∧ ci ∈ fam := by
  unfold fits1 at e
  dsimp only at e
  split at e
  · exact ⟨_, by assumption, of_decide_eq_true e⟩
  · cases e
theorem go_aastore (hK : KOK K own cc ret) {kd : Nat} {fam : List Nat} (h2 : 2 ≤ kd) (h4 : kd < 4) (hasg : asgOK kd fam) {o : Option Nat} {i : Int32} {v : Option Nat} {f : AH → Option (α × AH)} (d : decode cc pc = .ok (.aastore, 1)) (kk : ∀ h2, Go K (pc + 1) ls st h2 (f h2)) : Go K pc ls (vR v :: vI i :: vR o :: st) h ((rS h o kd fam i v).bind f) := by
  intro r h' ho
  cases e : rS h o kd fam i v with
  | none => rw [e] at ho; cases ho
  | some h2 =>
    rw [e] at ho
    obtain ⟨a, n, rfl, hT, hin, hfit, rfl⟩ := rS_some e
    obtain ⟨m1, m2⟩ := kk _ r h' ho
    refine ⟨aLe_of (h2 := wR h a (va_up (aR h a) i.toNatClampNeg v)) rfl m1, fun ha H locs lsA hP hS hls => ?_⟩
    obtain ⟨E, hE, hcl⟩ := hasg
    have hAr := arr_at hK hT hP
    have hty := tys_at hK kd h4
    rw [hE] at hty
    have fin : ∀ (H1 : Heap) (L : List Loc), H1[K.1.2.2.2.1 + a]? = some ((arrV (K.1.2.2.2.2.2 kd) n (elV K.1.2.2.2.1 h a kd)).setSlot i.toNatClampNeg (rv K.1.2.2.2.1 v)) → H1.size = H.size → (∀ q, q ≠ K.1.2.2.2.1 + a → H1[q]? = H[q]?) → va_S (fun q => K.1.2.2.2.1 ≤ q) K.2.1.2.2.1.heap H1 L → Wk K (kR K h') (kQ K r h') H1 L (aN h - aN K.2.2.2.2) (aS h - aS K.2.2.2.2) (pc + 1) lsA st := by
      intro H1 L e1 z oq hS1
      refine m2 ha H1 _ lsA (hP.set hT z oq rfl rfl (fun _ _ => rfl) (fun _ _ => rfl) (fun b hb => va_up_ne _ _ hb) ?_) hS1 hls
      show H1[_]? = _
      rw [e1, arrV_store]
      refine congrArg (fun g => some (arrV _ n g)) (upd_el fun j => ?_)
      rw [elV_R h2, elV_R h2]
      have q1 : aR (wR h a (va_up (aR h a) i.toNatClampNeg v)) a = va_up (aR h a) i.toNatClampNeg v := va_up_self _ _ _
      rw [q1]
      unfold va_up
      by_cases hj : j = i.toNatClampNeg
      · rw [if_pos hj, if_pos hj]
      · rw [if_neg hj, if_neg hj]
    have hlt : i.toNatClampNeg < n := Nat.not_le.mp fun q => hin (Or.inr q)
    cases v with
    | none => exact va_WaastN (C := E) hK.1 hK.2.1 hAr (hty.1 n _) (fun q => by cases q) (by rw [arrV_size]; exact hin) rfl rfl d fun H1 e1 z oq => fin H1 _ e1 z oq (hS.put z oq (Nat.le_add_right _ _))
    | some b =>
      obtain ⟨ci, hTb, hci⟩ := fits1_some hfit
      obtain ⟨kA, comp, k1, k2, k3, -⟩ := hty.2
      obtain ⟨kE, hkE, -⟩ := Vm.findClass_spec k3
      obtain ⟨-, r0, hr0, cellV, g1, g2, g3, -⟩ := hP.2 b _ hTb
      obtain ⟨r1, hr1, hca⟩ := hcl ci hci
      cases hr0.symm.trans hr1
      have hcls := (hK.vk.1 ci r0 hr0).2
      obtain ⟨kC, hkC, -⟩ := hcls.2
      have hasg : K.2.1.2.2.1.vm.assignable (K.1.2.2.2.2.1.1 ci) comp = true := by
        rcases hca with hca | hca
        · have hcomp : comp = K.1.2.2.2.2.1.1 ci := Option.some.inj (k3.symm.trans (by rw [← hca]; exact hcls.1))
          rw [hcomp]; exact va_assign hcls
        · have hz := va_Nw.warmC hK.2.2.2.2.1 (va_Nw.of rfl (hK.2.2.2.2.2.2.2.1 _ hca))
          obtain ⟨c0, t1, f1, f2, f3⟩ := Cond.castable_spec (va_Nw.use (A := #[]) rfl hz)
          cases hcls.1.symm.trans f1
          cases k3.symm.trans f2
          exact f3
      exact W.aast hK.1 hK.2.1 hAr (fun q z => by cases z) (fun z => by cases z) k1 k2 rfl hkE ⟨fun q => hin (Or.inl q), by rw [arrV_size]; exact hlt⟩ g1 (fun q z => by rw [g3] at z; cases z) (by rw [g2]; exact hkC) (by rw [g2]; exact hasg) rfl rfl d fun H1 e1 z oq => fin H1 _ e1 z oq (hS.put z oq (Nat.le_add_right _ _))
/-- the room for a new cell -/
theorem room_new {h0 h h' : AH} {ty : AT} {n : Nat} (a : aLe h0 h) (m : aLe (nwH h ty n) h') : (aN h - aN h0) + 1 ≤ aN h' - aN h0 ∧ (aS h - aS h0) + n ≤ aS h' - aS h0 ∧ aLe h0 (nwH h ty n) ∧ aN (nwH h ty n) - aN h0 = (aN h - aN h0) + 1 ∧ aS (nwH h ty n) - aS h0 = (aS h - aS h0) + n := by
  unfold aLe at *
  have e1 : aN (nwH h ty n) = aN h + 1 := rfl
  have e2 : aS (nwH h ty n) = aS h + n := rfl
  generalize aN (nwH h ty n) = x1 at *
  generalize aS (nwH h ty n) = x2 at *
  omega
theorem aLe_nw {h h' : AH} {ty : AT} {n : Nat} (m : aLe (nwH h ty n) h') : aLe h h' := by
  unfold aLe at *
  have e1 : aN (nwH h ty n) = aN h + 1 := rfl
  have e2 : aS (nwH h ty n) = aS h + n := rfl
  rw [e1, e2] at m
  omega
theorem go_new (hK : KOK K own cc ret) {ci N idx : Nat} {C : String} {T : u_T} (hc : clsOK ci C T N) (hl : Cond.classLink own idx C ∈ Tg) (hi : Cond.instantiable C N ∈ Tg) (hz : Cond.initialized C ∈ Tg) {f : Option Nat → AH → Option (α × AH)} (d : decode cc pc = .ok (.new idx, 3)) (kk : ∀ a h2, Go K (pc + 3) ls (vR a :: st) h2 (f a h2)) : Go K pc ls st h (bd (nO h ci N) f) := by
  intro r h' ho
  have ho : f (some (aN h)) (nwH h (.inr ci) N) = some (r, h') := ho
  obtain ⟨m1, m2⟩ := kk _ _ r h' ho
  refine ⟨aLe_nw m1, fun ha H locs lsA hP hS hls => ?_⟩
  obtain ⟨r1, r2, r3, r4, r5⟩ := room_new ha m1
  obtain ⟨hc1, hin, ty, hty, hnm, hdf⟩ := hc
  have hKn := hK.vk.1 ci _ hc1
  refine W.newcK hK.1 hK.2.1 hK.2.2.2.1 (hK.hts _ hl) (hK.hts _ hi) (hK.hts _ hz) rfl d r1 r2 hKn.2.1 hP.1 fun H1 kC hkC e1 z1 o1 => ?_
  have hP1 : HP K.1 (nwH h (.inr ci) N) H1 := hP.add (by rw [z1, hP.1]) (fun q hq => o1 q (by rw [← hP.1]; exact hq)) ⟨_, hc1, (u_born ty hK.hts hin hKn hkC e1 hty).to (fun j hj => by
    rw [hdf j hj]
    unfold fiV
    have q1 : aI (nwH h (.inr ci) N) (aN h) = fun _ => 0 := va_up_self _ _ _
    have q2 : aR (nwH h (.inr ci) N) (aN h) = fun _ => none := va_up_self _ _ _
    rw [q1, q2]
    rfl)⟩
  have := m2 r3 H1 locs lsA hP1 ⟨Nat.le_trans hS.1 (by rw [z1, hP.1]; exact Nat.le_succ _), fun x h1 h2 => (o1 x (by rw [← hP.1]; exact Nat.lt_of_lt_of_le h1 hS.1)).trans (hS.2.1 x h1 h2), hS.2.2⟩ hls
  rw [r4, r5] at this
  exact this
end NEW
end
section
section NEWA
variable {α : Type} {K : CX α} {own : String} {cc : ByteArray} {ret : Option FieldType} {pc : Nat} {ls : List (Nat × AV)} {st : List AV} {h : AH}
theorem nA_some {kd : Nat} {n : Int32} {q : Option Nat × AH} (e : nA h kd n = some q) : ¬ n < 0 ∧ n.toNatClampNeg ≤ 1000000 ∧ q = (some (aN h), nwH h (.inl (kd, n.toNatClampNeg)) n.toNatClampNeg) := by
  unfold nA at e
  split at e
  · cases e
  · rename_i hc
    exact ⟨fun z => hc (Or.inl z), Nat.not_lt.mp fun z => hc (Or.inr z), (Option.some.inj e).symm⟩
theorem nA_cell {X : GX} {kd N : Nat} {H1 : Heap} {z : Value} (e1 : H1[X.2.2.2.1 + aN h]? = some (arrV (X.2.2.2.2.2 kd) N (fun _ => z))) (hz : ∀ j, elV X.2.2.2.1 (nwH h (.inl (kd, N)) N) (aN h) kd j = z) : cAt X (nwH h (.inl (kd, N)) N) (aN h) (.inl (kd, N)) H1 := by
  show H1[_]? = _
  rw [e1]
  exact congrArg (fun g => some (arrV _ N g)) (funext fun j => (hz j).symm)
theorem go_newarrayI (hK : KOK K own cc ret) (hw : Cond.arrayClass .int ∈ Tg) {n : Int32} {f : Option Nat → AH → Option (α × AH)} (d : decode cc pc = .ok (.newarray .int, 2)) (kk : ∀ a h2, Go K (pc + 2) ls (vR a :: st) h2 (f a h2)) : Go K pc ls (vI n :: st) h (bd (nA h 0 n) f) := by
  intro r h' ho
  cases e : nA h 0 n with
  | none => rw [e] at ho; cases ho
  | some q =>
    rw [e] at ho
    obtain ⟨hn, hle, rfl⟩ := nA_some e
    have ho : f (some (aN h)) (nwH h (.inl (0, n.toNatClampNeg)) n.toNatClampNeg) = some (r, h') := ho
    obtain ⟨m1, m2⟩ := kk _ _ r h' ho
    refine ⟨aLe_nw m1, fun ha H locs lsA hP hS hls => ?_⟩
    obtain ⟨r1, r2, r3, r4, r5⟩ := room_new ha m1
    refine va_newaK (atype := .int) hK.1 hK.2.1 (hK.hts _ hw) rfl d rfl hn rfl (show n.toNatClampNeg * 4 ≤ 536870912 by omega) r1 r2 hP.1 fun H1 cA e1 z1 o1 hAr hNm => ?_
    have hcA : cA = K.1.2.2.2.2.2 0 := Option.some.inj (hNm.symm.trans (tys_at hK 0 (by decide)).2)
    subst hcA
    have hP1 : HP K.1 (nwH h (.inl (0, n.toNatClampNeg)) n.toNatClampNeg) H1 := hP.add (by rw [z1, hP.1]) (fun q hq => o1 q (by rw [← hP.1]; exact hq)) (nA_cell (z := .int 0) e1 (fun j => by
      have q1 : aI (nwH h (.inl (0, n.toNatClampNeg)) n.toNatClampNeg) (aN h) = fun _ => 0 := va_up_self _ _ _
      unfold elV
      rw [q1]
      rfl))
    have := m2 r3 H1 locs lsA hP1 ⟨Nat.le_trans hS.1 (by rw [z1, hP.1]; exact Nat.le_succ _), fun x h1 h2 => (o1 x (by rw [← hP.1]; exact Nat.lt_of_lt_of_le h1 hS.1)).trans (hS.2.1 x h1 h2), hS.2.2⟩ hls
    rw [r4, r5] at this
    exact this
theorem go_newarrayJ (hK : KOK K own cc ret) (hw : Cond.arrayClass .long ∈ Tg) {n : Int32} {f : Option Nat → AH → Option (α × AH)} (d : decode cc pc = .ok (.newarray .long, 2)) (kk : ∀ a h2, Go K (pc + 2) ls (vR a :: st) h2 (f a h2)) : Go K pc ls (vI n :: st) h (bd (nA h 1 n) f) := by
  intro r h' ho
  cases e : nA h 1 n with
  | none => rw [e] at ho; cases ho
  | some q =>
    rw [e] at ho
    obtain ⟨hn, hle, rfl⟩ := nA_some e
    have ho : f (some (aN h)) (nwH h (.inl (1, n.toNatClampNeg)) n.toNatClampNeg) = some (r, h') := ho
    obtain ⟨m1, m2⟩ := kk _ _ r h' ho
    refine ⟨aLe_nw m1, fun ha H locs lsA hP hS hls => ?_⟩
    obtain ⟨r1, r2, r3, r4, r5⟩ := room_new ha m1
    refine va_newaK (atype := .long) hK.1 hK.2.1 (hK.hts _ hw) rfl d rfl hn rfl (show n.toNatClampNeg * 8 ≤ 536870912 by omega) r1 r2 hP.1 fun H1 cA e1 z1 o1 hAr hNm => ?_
    have hcA : cA = K.1.2.2.2.2.2 1 := Option.some.inj (hNm.symm.trans (tys_at hK 1 (by decide)).2)
    subst hcA
    have hP1 : HP K.1 (nwH h (.inl (1, n.toNatClampNeg)) n.toNatClampNeg) H1 := hP.add (by rw [z1, hP.1]) (fun q hq => o1 q (by rw [← hP.1]; exact hq)) (nA_cell (z := .long 0) e1 (fun j => by
      have q1 : aL (nwH h (.inl (1, n.toNatClampNeg)) n.toNatClampNeg) (aN h) = fun _ => 0 := va_up_self _ _ _
      unfold elV
      rw [q1]
      rfl))
    have := m2 r3 H1 locs lsA hP1 ⟨Nat.le_trans hS.1 (by rw [z1, hP.1]; exact Nat.le_succ _), fun x h1 h2 => (o1 x (by rw [← hP.1]; exact Nat.lt_of_lt_of_le h1 hS.1)).trans (hS.2.1 x h1 h2), hS.2.2⟩ hls
    rw [r4, r5] at this
    exact this
theorem go_anewarray (hK : KOK K own cc ret) {kd idx : Nat} {C : String} (h2 : 2 ≤ kd) (h4 : kd < 4) (hE : arT kd = .object C) (hl : Cond.classLink own idx C ∈ Tg) (hw : Cond.arrayOver (.object C) ∈ lw_tbl) {n : Int32} {f : Option Nat → AH → Option (α × AH)} (d : decode cc pc = .ok (.anewarray idx, 3)) (kk : ∀ a h2, Go K (pc + 3) ls (vR a :: st) h2 (f a h2)) : Go K pc ls (vI n :: st) h (bd (nA h kd n) f) := by
  intro r h' ho
  cases e : nA h kd n with
  | none => rw [e] at ho; cases ho
  | some q =>
    rw [e] at ho
    obtain ⟨hn, hle, rfl⟩ := nA_some e
    have ho : f (some (aN h)) (nwH h (.inl (kd, n.toNatClampNeg)) n.toNatClampNeg) = some (r, h') := ho
    obtain ⟨m1, m2⟩ := kk _ _ r h' ho
    refine ⟨aLe_nw m1, fun ha H locs lsA hP hS hls => ?_⟩
    obtain ⟨r1, r2, r3, r4, r5⟩ := room_new ha m1
    have hAO : va_AO C K.2.1.2.2.1 := va_AO.moved hK.2.2.2.2.1.alike (va_AO.of (hK.2.2.2.2.2.2.2.1 _ hw))
    refine W.anew hK.1 hK.2.1 hK.2.2.2.1 (hK.hts _ hl) (va_AO.use hAO) rfl d rfl hn (by omega) r1 r2 fun cA kA comp f1 f2 f3 f4 => ?_
    have hra := (tys_at hK kd h4).2
    rw [hE] at hra
    obtain ⟨kB, cb, -, -, -, g1⟩ := hra
    have hcA : cA = K.1.2.2.2.2.2 kd := Option.some.inj (f1.symm.trans g1)
    subst hcA
    generalize hH1 : H.push ({ cls := K.1.2.2.2.2.2 kd, slots := Array.replicate n.toNatClampNeg .null, vm := .none } : Cell) = H1
    have z1 : H1.size = H.size + 1 := by rw [← hH1, Array.size_push]
    have e1 : H1[H.size]? = some (arrV (K.1.2.2.2.2.2 kd) n.toNatClampNeg (fun _ => .null)) := by rw [← hH1, Array.getElem?_push_size, ← arrV_new]
    have o1 : ∀ q : Nat, q < H.size → H1[q]? = H[q]? := fun q hq => by rw [← hH1, Array.getElem?_push, if_neg (Nat.ne_of_lt hq)]
    have hP1 : HP K.1 (nwH h (.inl (kd, n.toNatClampNeg)) n.toNatClampNeg) H1 := hP.add z1 o1 (nA_cell (z := .null) (by rw [← hP.1]; exact e1) (fun j => by
      have q1 : aR (nwH h (.inl (kd, n.toNatClampNeg)) n.toNatClampNeg) (aN h) = fun _ => none := va_up_self _ _ _
      rw [elV_R h2, q1]
      rfl))
    have := m2 r3 H1 locs lsA hP1 ⟨Nat.le_trans hS.1 (by rw [z1]; exact Nat.le_succ _), fun x h1 h2 => (o1 x (Nat.lt_of_lt_of_le h1 hS.1)).trans (hS.2.1 x h1 h2), hS.2.2⟩ hls
    rw [r4, r5] at this
    rw [hP.1]
    exact this
end NEWA
section RET
variable {K0 : GX × MX} {own : String} {cc : ByteArray} {ret : Option FieldType} {pc : Nat} {ls : List (Nat × AV)} {h : AH}
theorem go_ireturn {K : CX Int32} (hK : KOK K own cc (some .int)) {x : Int32} (hr : K.2.2.1 x = some (.int x)) (d : decode cc pc = .ok (.ireturn, 1)) : Go K pc ls [vI x] h (some (x, h)) := by
  intro r h' ho
  cases ho
  refine ⟨aLe.rf h, fun ha H locs lsA hP hS hls => ?_⟩
  exact W.iret hK.1 hK.2.1 hK.2.2.2.2.2.1 (fun t ht hW => ⟨by rw [hr], by rw [ht]; exact hP, hS.F ht⟩) hS.2.2 d hK.2.2.2.2.2.2.1
theorem go_zreturn {K : CX Int32} (hK : KOK K own cc (some .boolean)) {x : Int32} (hn : narrow .boolean (.int x) = .int x) (hr : K.2.2.1 x = some (.int x)) (d : decode cc pc = .ok (.ireturn, 1)) : Go K pc ls [vI x] h (some (x, h)) := by
  intro r h' ho
  cases ho
  refine ⟨aLe.rf h, fun ha H locs lsA hP hS hls => ?_⟩
  exact W.zret hK.1 hK.2.1 hK.2.2.2.2.2.1 hn (fun t ht hW => ⟨by rw [hr], by rw [ht]; exact hP, hS.F ht⟩) hS.2.2 d hK.2.2.2.2.2.2.1
/-- a boolean that was computed -/
def rb (x : Int32) (h : AH) : Option (Int32 × AH) := if x = 0 then some (0, h) else if x = 1 then some (1, h) else none
theorem go_zreturnV {K : CX Int32} (hK : KOK K own cc (some .boolean)) {x : Int32} (hr : ∀ x, K.2.2.1 x = some (.int x)) (d : decode cc pc = .ok (.ireturn, 1)) : Go K pc ls [vI x] h (rb x h) := by
  unfold rb
  by_cases h0 : x = 0
  · subst h0
    rw [if_pos rfl]
    exact go_zreturn hK (by decide +kernel) (hr _) d
  · rw [if_neg h0]
    by_cases h1 : x = 1
    · subst h1
      rw [if_pos rfl]
      exact go_zreturn hK (by decide +kernel) (hr _) d
    · rw [if_neg h1]
      intro r h' ho
      cases ho
theorem go_lreturn {K : CX Int64} (hK : KOK K own cc (some .long)) {x : Int64} (hr : K.2.2.1 x = some (.long x)) (d : decode cc pc = .ok (.lreturn, 1)) : Go K pc ls [vJ x] h (some (x, h)) := by
  intro r h' ho
  cases ho
  refine ⟨aLe.rf h, fun ha H locs lsA hP hS hls => ?_⟩
  exact W.lret hK.1 hK.2.1 hK.2.2.2.2.2.1 (fun t ht hW => ⟨by rw [hr], by rw [ht]; exact hP, hS.F ht⟩) hS.2.2 d hK.2.2.2.2.2.2.1
theorem go_areturn {K : CX (Option Nat)} {C : String} (hK : KOK K own cc (some (.object C))) {x : Option Nat} (hr : K.2.2.1 x = some (rv K.1.2.2.2.1 x)) (d : decode cc pc = .ok (.areturn, 1)) : Go K pc ls [vR x] h (some (x, h)) := by
  intro r h' ho
  cases ho
  refine ⟨aLe.rf h, fun ha H locs lsA hP hS hls => ?_⟩
  exact W.aret hK.1 hK.2.1 hK.2.2.2.2.2.1 (Or.inl ⟨C, rfl⟩) (by cases x with
    | none => exact Or.inl rfl
    | some a => exact Or.inr ⟨_, rfl⟩) (fun t ht hW => ⟨by rw [hr]; rfl, by rw [ht]; exact hP, hS.F ht⟩) hS.2.2 d hK.2.2.2.2.2.2.1
theorem go_return {K : CX Unit} (hK : KOK K own cc none) (hr : K.2.2.1 () = none) (d : decode cc pc = .ok (.return_, 1)) : Go K pc ls [] h (some ((), h)) := by
  intro r h' ho
  cases ho
  refine ⟨aLe.rf h, fun ha H locs lsA hP hS hls => ?_⟩
  exact W.vret hK.1 hK.2.1 hK.2.2.2.2.2.1 (fun t ht hW => ⟨by rw [hr], by rw [ht]; exact hP, hS.F ht⟩) hS.2.2 d hK.2.2.2.2.2.2.1
end RET
end
section
/-! THE SAME RULES, FOR ANY RUN OF THE METHOD -/
abbrev PX (α : Type) : Type := GX × (α → Option Value) × (Nat × Nat × Nat) × AH
def mkC {α : Type} (P : PX α) (M : MX) : CX α := (P.1, M, P.2.1, P.2.2.1, P.2.2.2)
def Mono {α : Type} (h : AH) (o : Option (α × AH)) : Prop := ∀ (r : α) (h' : AH), o = some (r, h') → aLe h h'
def Gp {α : Type} (P : PX α) (own mn : String) (cc : ByteArray) (ret : Option FieldType) (pc : Nat) (ls : List (Nat × AV)) (st : List AV) (h : AH) (o : Option (α × AH)) : Prop :=
  Mono h o ∧ ∀ M : MX, KOK (mkC P M) own cc ret → M.2.2.2.2.2.2.1.name = mn → Go (mkC P M) pc ls st h o
theorem mono_if {α : Type} {h : AH} {c : Prop} [Decidable c] {a b : Option (α × AH)} (ha : Mono h a) (hb : Mono h b) : Mono h (if c then a else b) := by
  by_cases hc : c
  · rw [if_pos hc]; exact ha
  · rw [if_neg hc]; exact hb
theorem mono_none {α : Type} {h : AH} : Mono h (none : Option (α × AH)) := fun _ _ e => by cases e
theorem mono_some {α : Type} {h : AH} {r : α} : Mono h (some (r, h)) := fun _ _ e => by cases e; exact aLe.rf h
theorem mono_bind {α β : Type} {h : AH} {o : Option β} {f : β → Option (α × AH)} (k : ∀ x, Mono h (f x)) : Mono h (o.bind f) := by
  cases o with
  | none => exact mono_none
  | some x => exact k x
theorem mono_put {α : Type} {h : AH} {o : Option AH} {f : AH → Option (α × AH)} (ho : ∀ h2, o = some h2 → h2.1 = h.1) (k : ∀ h2, Mono h2 (f h2)) : Mono h (o.bind f) := by
  cases o with
  | none => exact mono_none
  | some h2 => exact fun r h' e => aLe_of (ho h2 rfl) (k h2 r h' e)
theorem mono_bd {α β : Type} {h : AH} {o : Option (β × AH)} {f : β → AH → Option (α × AH)} (ho : Mono h o) (k : ∀ x h2, Mono h2 (f x h2)) : Mono h (bd o f) := by
  cases o with
  | none => exact mono_none
  | some q => exact fun r h' e => (ho q.1 q.2 rfl).tr (k q.1 q.2 r h' e)
theorem pI_1 {h h2 : AH} {o : Option Nat} {fam : List Nat} {k : Nat} {v : Int32} (e : pI h o fam k v = some h2) : h2.1 = h.1 := by obtain ⟨a, ci, -, -, -, rfl⟩ := pI_some e; rfl
theorem pR_1 {h h2 : AH} {o : Option Nat} {fam : List Nat} {k : Nat} {v : Option Nat} (e : pR h o fam k v = some h2) : h2.1 = h.1 := by obtain ⟨a, ci, -, -, -, rfl⟩ := pR_some e; rfl
theorem iS_1 {h h2 : AH} {o : Option Nat} {i v : Int32} (e : iS h o i v = some h2) : h2.1 = h.1 := by obtain ⟨a, ci, -, -, -, rfl⟩ := iS_some e; rfl
theorem jS_1 {h h2 : AH} {o : Option Nat} {i : Int32} {v : Int64} (e : jS h o i v = some h2) : h2.1 = h.1 := by obtain ⟨a, ci, -, -, -, rfl⟩ := jS_some e; rfl
theorem rS_1 {h h2 : AH} {o : Option Nat} {kd : Nat} {fam : List Nat} {i : Int32} {v : Option Nat} (e : rS h o kd fam i v = some h2) : h2.1 = h.1 := by obtain ⟨a, ci, -, -, -, -, rfl⟩ := rS_some e; rfl
theorem mono_nw {h : AH} {ty : AT} {n : Nat} : Mono h (some (some (aN h), nwH h ty n)) := fun _ _ e => by cases e; exact ⟨Nat.le_succ _, Nat.le_add_right _ _⟩
theorem mono_nA {h : AH} {kd : Nat} {n : Int32} : Mono h (nA h kd n) := by
  intro r h' e
  obtain ⟨-, -, q⟩ := nA_some e
  cases q
  exact ⟨Nat.le_succ _, Nat.le_add_right _ _⟩
theorem Gp.at {α : Type} {P : PX α} {own mn : String} {cc : ByteArray} {ret : Option FieldType} {pc : Nat} {ls : List (Nat × AV)} {st : List AV} {h : AH} {o : Option (α × AH)} (k : Gp P own mn cc ret pc ls st h o) (M : MX) (hK : KOK (mkC P M) own cc ret) (hm : M.2.2.2.2.2.2.1.name = mn) : Go (mkC P M) pc ls st h o := k.2 M hK hm
section GP
variable {α : Type} {P : PX α} {own mn : String} {cc : ByteArray} {ret : Option FieldType} {pc : Nat} {ls : List (Nat × AV)} {st : List AV} {h : AH} {o : Option (α × AH)}
theorem g_sub {ls' : List (Nat × AV)} (ps : List Nat) (e : ps.filterMap (fun k => ls[k]?) = ls') (k :  Gp P own mn cc ret pc ls' st h o) : Gp P own mn cc ret pc ls st h o :=
  ⟨k.1, fun M hK hm => go_sub (K := mkC P M) ps e (k.at M hK hm)⟩
theorem g_iconst {n : Int} {v : Int32} (d : decode cc pc = .ok (.iconst n, 1)) (e : Int32.ofInt n = v) (k :  Gp P own mn cc ret (pc + 1) ls (vI v :: st) h o) : Gp P own mn cc ret pc ls st h o :=
  ⟨k.1, fun M hK hm => go_iconst (K := mkC P M) hK d e (k.at M hK hm)⟩
theorem g_bipush {n : Int} {v : Int32} (d : decode cc pc = .ok (.bipush n, 2)) (e : (Int8.ofInt n).toInt32 = v) (k :  Gp P own mn cc ret (pc + 2) ls (vI v :: st) h o) : Gp P own mn cc ret pc ls st h o :=
  ⟨k.1, fun M hK hm => go_bipush (K := mkC P M) hK d e (k.at M hK hm)⟩
theorem g_sipush {n : Int} {v : Int32} (d : decode cc pc = .ok (.sipush n, 3)) (e : (Int16.ofInt n).toInt32 = v) (k :  Gp P own mn cc ret (pc + 3) ls (vI v :: st) h o) : Gp P own mn cc ret pc ls st h o :=
  ⟨k.1, fun M hK hm => go_sipush (K := mkC P M) hK d e (k.at M hK hm)⟩
theorem g_lconst {n : Fin 2} {v : Int64} (d : decode cc pc = .ok (.lconst n, 1)) (e : Int64.ofNat (n : Nat) = v) (k :  Gp P own mn cc ret (pc + 1) ls (vJ v :: st) h o) : Gp P own mn cc ret pc ls st h o :=
  ⟨k.1, fun M hK hm => go_lconst (K := mkC P M) hK d e (k.at M hK hm)⟩
theorem g_ldc {i : Nat} {v : Int32} (w : Cond.constant own i v ∈ Tg) (d : decode cc pc = .ok (.ldc i, 2)) (k :  Gp P own mn cc ret (pc + 2) ls (vI v :: st) h o) : Gp P own mn cc ret pc ls st h o :=
  ⟨k.1, fun M hK hm => go_ldc (K := mkC P M) hK w d (k.at M hK hm)⟩
theorem g_ldcw {i : Nat} {v : Int32} (w : Cond.constant own i v ∈ Tg) (d : decode cc pc = .ok (.ldc_w i, 3)) (k :  Gp P own mn cc ret (pc + 3) ls (vI v :: st) h o) : Gp P own mn cc ret pc ls st h o :=
  ⟨k.1, fun M hK hm => go_ldcw (K := mkC P M) hK w d (k.at M hK hm)⟩
theorem g_ldc2 {i : Nat} {v : Int64} (w : Cond.constantLong own i v ∈ Tg) (d : decode cc pc = .ok (.ldc2_w i, 3)) (k :  Gp P own mn cc ret (pc + 3) ls (vJ v :: st) h o) : Gp P own mn cc ret pc ls st h o :=
  ⟨k.1, fun M hK hm => go_ldc2 (K := mkC P M) hK w d (k.at M hK hm)⟩
theorem g_null (d : decode cc pc = .ok (.aconst_null, 1)) (k :  Gp P own mn cc ret (pc + 1) ls (vR none :: st) h o) : Gp P own mn cc ret pc ls st h o :=
  ⟨k.1, fun M hK hm => go_null (K := mkC P M) hK d (k.at M hK hm)⟩
theorem g_iload_n (j : Nat) {n : Fin 4} {i : Nat} {x : Int32} (d : decode cc pc = .ok (.iload_n n, 1)) (hi : (n : Nat) = i) (e : ls[j]? = some (i, vI x)) (k :  Gp P own mn cc ret (pc + 1) ls (vI x :: st) h o) : Gp P own mn cc ret pc ls st h o :=
  ⟨k.1, fun M hK hm => go_iload_n (K := mkC P M) hK j d hi e (k.at M hK hm)⟩
theorem g_iload (j : Nat) {i : Nat} {x : Int32} (d : decode cc pc = .ok (.iload i, 2)) (e : ls[j]? = some (i, vI x)) (k :  Gp P own mn cc ret (pc + 2) ls (vI x :: st) h o) : Gp P own mn cc ret pc ls st h o :=
  ⟨k.1, fun M hK hm => go_iload (K := mkC P M) hK j d e (k.at M hK hm)⟩
theorem g_lload_n (j : Nat) {n : Fin 4} {i : Nat} {x : Int64} (d : decode cc pc = .ok (.lload_n n, 1)) (hi : (n : Nat) = i) (e : ls[j]? = some (i, vJ x)) (k :  Gp P own mn cc ret (pc + 1) ls (vJ x :: st) h o) : Gp P own mn cc ret pc ls st h o :=
  ⟨k.1, fun M hK hm => go_lload_n (K := mkC P M) hK j d hi e (k.at M hK hm)⟩
theorem g_lload (j : Nat) {i : Nat} {x : Int64} (d : decode cc pc = .ok (.lload i, 2)) (e : ls[j]? = some (i, vJ x)) (k :  Gp P own mn cc ret (pc + 2) ls (vJ x :: st) h o) : Gp P own mn cc ret pc ls st h o :=
  ⟨k.1, fun M hK hm => go_lload (K := mkC P M) hK j d e (k.at M hK hm)⟩
theorem g_aload_n (j : Nat) {n : Fin 4} {i : Nat} {x : Option Nat} (d : decode cc pc = .ok (.aload_n n, 1)) (hi : (n : Nat) = i) (e : ls[j]? = some (i, vR x)) (k :  Gp P own mn cc ret (pc + 1) ls (vR x :: st) h o) : Gp P own mn cc ret pc ls st h o :=
  ⟨k.1, fun M hK hm => go_aload_n (K := mkC P M) hK j d hi e (k.at M hK hm)⟩
theorem g_aload (j : Nat) {i : Nat} {x : Option Nat} (d : decode cc pc = .ok (.aload i, 2)) (e : ls[j]? = some (i, vR x)) (k :  Gp P own mn cc ret (pc + 2) ls (vR x :: st) h o) : Gp P own mn cc ret pc ls st h o :=
  ⟨k.1, fun M hK hm => go_aload (K := mkC P M) hK j d e (k.at M hK hm)⟩
theorem g_istore_n {n : Fin 4} {i : Nat} {x : Int32} {ls' : List (Nat × AV)} (d : decode cc pc = .ok (.istore_n n, 1)) (hi : (n : Nat) = i) (hn : i < P.2.2.1.2.2) (e : (i, vI x) :: ls.filter (fun q => !(q.1 == i) && !(q.1 + 1 == i && ac q.2 == 2)) = ls') (k :  Gp P own mn cc ret (pc + 1) ls' st h o) : Gp P own mn cc ret pc ls (vI x :: st) h o :=
  ⟨k.1, fun M hK hm => go_istore_n (K := mkC P M) hK d hi hn e (k.at M hK hm)⟩
theorem g_istore {i : Nat} {x : Int32} {ls' : List (Nat × AV)} (d : decode cc pc = .ok (.istore i, 2)) (hn : i < P.2.2.1.2.2) (e : (i, vI x) :: ls.filter (fun q => !(q.1 == i) && !(q.1 + 1 == i && ac q.2 == 2)) = ls') (k :  Gp P own mn cc ret (pc + 2) ls' st h o) : Gp P own mn cc ret pc ls (vI x :: st) h o :=
  ⟨k.1, fun M hK hm => go_istore (K := mkC P M) hK d hn e (k.at M hK hm)⟩
theorem g_lstore_n {n : Fin 4} {i : Nat} {x : Int64} {ls' : List (Nat × AV)} (d : decode cc pc = .ok (.lstore_n n, 1)) (hi : (n : Nat) = i) (hn : i + 1 < P.2.2.1.2.2) (e : (i, vJ x) :: ls.filter (fun q => !(q.1 == i) && (!(q.1 == i + 1) && !(q.1 + 1 == i && ac q.2 == 2))) = ls') (k :  Gp P own mn cc ret (pc + 1) ls' st h o) : Gp P own mn cc ret pc ls (vJ x :: st) h o :=
  ⟨k.1, fun M hK hm => go_lstore_n (K := mkC P M) hK d hi hn e (k.at M hK hm)⟩
theorem g_lstore {i : Nat} {x : Int64} {ls' : List (Nat × AV)} (d : decode cc pc = .ok (.lstore i, 2)) (hn : i + 1 < P.2.2.1.2.2) (e : (i, vJ x) :: ls.filter (fun q => !(q.1 == i) && (!(q.1 == i + 1) && !(q.1 + 1 == i && ac q.2 == 2))) = ls') (k :  Gp P own mn cc ret (pc + 2) ls' st h o) : Gp P own mn cc ret pc ls (vJ x :: st) h o :=
  ⟨k.1, fun M hK hm => go_lstore (K := mkC P M) hK d hn e (k.at M hK hm)⟩
theorem g_astore_n {n : Fin 4} {i : Nat} {x : Option Nat} {ls' : List (Nat × AV)} (d : decode cc pc = .ok (.astore_n n, 1)) (hi : (n : Nat) = i) (hn : i < P.2.2.1.2.2) (e : (i, vR x) :: ls.filter (fun q => !(q.1 == i) && !(q.1 + 1 == i && ac q.2 == 2)) = ls') (k :  Gp P own mn cc ret (pc + 1) ls' st h o) : Gp P own mn cc ret pc ls (vR x :: st) h o :=
  ⟨k.1, fun M hK hm => go_astore_n (K := mkC P M) hK d hi hn e (k.at M hK hm)⟩
theorem g_astore {i : Nat} {x : Option Nat} {ls' : List (Nat × AV)} (d : decode cc pc = .ok (.astore i, 2)) (hn : i < P.2.2.1.2.2) (e : (i, vR x) :: ls.filter (fun q => !(q.1 == i) && !(q.1 + 1 == i && ac q.2 == 2)) = ls') (k :  Gp P own mn cc ret (pc + 2) ls' st h o) : Gp P own mn cc ret pc ls (vR x :: st) h o :=
  ⟨k.1, fun M hK hm => go_astore (K := mkC P M) hK d hn e (k.at M hK hm)⟩
theorem g_iinc (j : Nat) {i : Nat} {n : Int} {x v : Int32} {ls' : List (Nat × AV)} (d : decode cc pc = .ok (.iinc i n, 3)) (e : ls[j]? = some (i, vI x)) (hv : x + Int32.ofInt n = v) (hn : i < P.2.2.1.2.2) (e2 : (i, vI v) :: ls.filter (fun q => !(q.1 == i) && !(q.1 + 1 == i && ac q.2 == 2)) = ls') (k :  Gp P own mn cc ret (pc + 3) ls' st h o) : Gp P own mn cc ret pc ls st h o :=
  ⟨k.1, fun M hK hm => go_iinc (K := mkC P M) hK j d e hv hn e2 (k.at M hK hm)⟩
theorem g_iadd {x y : Int32} (d : decode cc pc = .ok (.iadd, 1)) (k :  Gp P own mn cc ret (pc + 1) ls (vI (x + y) :: st) h o) : Gp P own mn cc ret pc ls (vI y :: vI x :: st) h o :=
  ⟨k.1, fun M hK hm => go_iadd (K := mkC P M) hK d (k.at M hK hm)⟩
theorem g_isub {x y : Int32} (d : decode cc pc = .ok (.isub, 1)) (k :  Gp P own mn cc ret (pc + 1) ls (vI (x - y) :: st) h o) : Gp P own mn cc ret pc ls (vI y :: vI x :: st) h o :=
  ⟨k.1, fun M hK hm => go_isub (K := mkC P M) hK d (k.at M hK hm)⟩
theorem g_imul {x y : Int32} (d : decode cc pc = .ok (.imul, 1)) (k :  Gp P own mn cc ret (pc + 1) ls (vI (x * y) :: st) h o) : Gp P own mn cc ret pc ls (vI y :: vI x :: st) h o :=
  ⟨k.1, fun M hK hm => go_imul (K := mkC P M) hK d (k.at M hK hm)⟩
theorem g_iand {x y : Int32} (d : decode cc pc = .ok (.iand, 1)) (k :  Gp P own mn cc ret (pc + 1) ls (vI (x &&& y) :: st) h o) : Gp P own mn cc ret pc ls (vI y :: vI x :: st) h o :=
  ⟨k.1, fun M hK hm => go_iand (K := mkC P M) hK d (k.at M hK hm)⟩
theorem g_ior {x y : Int32} (d : decode cc pc = .ok (.ior, 1)) (k :  Gp P own mn cc ret (pc + 1) ls (vI (x ||| y) :: st) h o) : Gp P own mn cc ret pc ls (vI y :: vI x :: st) h o :=
  ⟨k.1, fun M hK hm => go_ior (K := mkC P M) hK d (k.at M hK hm)⟩
theorem g_ixor {x y : Int32} (d : decode cc pc = .ok (.ixor, 1)) (k :  Gp P own mn cc ret (pc + 1) ls (vI (x ^^^ y) :: st) h o) : Gp P own mn cc ret pc ls (vI y :: vI x :: st) h o :=
  ⟨k.1, fun M hK hm => go_ixor (K := mkC P M) hK d (k.at M hK hm)⟩
theorem g_ishl {x y : Int32} (d : decode cc pc = .ok (.ishl, 1)) (k :  Gp P own mn cc ret (pc + 1) ls (vI (x <<< (y &&& 31)) :: st) h o) : Gp P own mn cc ret pc ls (vI y :: vI x :: st) h o :=
  ⟨k.1, fun M hK hm => go_ishl (K := mkC P M) hK d (k.at M hK hm)⟩
theorem g_ishr {x y : Int32} (d : decode cc pc = .ok (.ishr, 1)) (k :  Gp P own mn cc ret (pc + 1) ls (vI (x >>> (y &&& 31)) :: st) h o) : Gp P own mn cc ret pc ls (vI y :: vI x :: st) h o :=
  ⟨k.1, fun M hK hm => go_ishr (K := mkC P M) hK d (k.at M hK hm)⟩
theorem g_iushr {x y : Int32} (d : decode cc pc = .ok (.iushr, 1)) (k :  Gp P own mn cc ret (pc + 1) ls (vI ((x.toUInt32 >>> (y.toUInt32 &&& Int32.toUInt32 31)).toInt32) :: st) h o) : Gp P own mn cc ret pc ls (vI y :: vI x :: st) h o :=
  ⟨k.1, fun M hK hm => go_iushr (K := mkC P M) hK d (k.at M hK hm)⟩
theorem g_idivK {x y : Int32} (d : decode cc pc = .ok (.idiv, 1)) (hy : ¬ y = 0) (k :  Gp P own mn cc ret (pc + 1) ls (vI (x / y) :: st) h o) : Gp P own mn cc ret pc ls (vI y :: vI x :: st) h o :=
  ⟨k.1, fun M hK hm => go_idivK (K := mkC P M) hK d hy (k.at M hK hm)⟩
theorem g_idiv {x y : Int32} (d : decode cc pc = .ok (.idiv, 1)) (k :  Gp P own mn cc ret (pc + 1) ls (vI (x / y) :: st) h o) : Gp P own mn cc ret pc ls (vI y :: vI x :: st) h (if y = 0 then none else o) :=
  ⟨mono_if mono_none k.1, fun M hK hm => go_idiv (K := mkC P M) hK d (k.at M hK hm)⟩
theorem g_iremK {x y : Int32} (d : decode cc pc = .ok (.irem, 1)) (hy : ¬ y = 0) (k :  Gp P own mn cc ret (pc + 1) ls (vI (x - x / y * y) :: st) h o) : Gp P own mn cc ret pc ls (vI y :: vI x :: st) h o :=
  ⟨k.1, fun M hK hm => go_iremK (K := mkC P M) hK d hy (k.at M hK hm)⟩
theorem g_irem {x y : Int32} (d : decode cc pc = .ok (.irem, 1)) (k :  Gp P own mn cc ret (pc + 1) ls (vI (x - x / y * y) :: st) h o) : Gp P own mn cc ret pc ls (vI y :: vI x :: st) h (if y = 0 then none else o) :=
  ⟨mono_if mono_none k.1, fun M hK hm => go_irem (K := mkC P M) hK d (k.at M hK hm)⟩
theorem g_ldivK {x y : Int64} (d : decode cc pc = .ok (.ldiv, 1)) (hy : ¬ y = 0) (k :  Gp P own mn cc ret (pc + 1) ls (vJ (x / y) :: st) h o) : Gp P own mn cc ret pc ls (vJ y :: vJ x :: st) h o :=
  ⟨k.1, fun M hK hm => go_ldivK (K := mkC P M) hK d hy (k.at M hK hm)⟩
theorem g_ldiv {x y : Int64} (d : decode cc pc = .ok (.ldiv, 1)) (k :  Gp P own mn cc ret (pc + 1) ls (vJ (x / y) :: st) h o) : Gp P own mn cc ret pc ls (vJ y :: vJ x :: st) h (if y = 0 then none else o) :=
  ⟨mono_if mono_none k.1, fun M hK hm => go_ldiv (K := mkC P M) hK d (k.at M hK hm)⟩
theorem g_lremK {x y : Int64} (d : decode cc pc = .ok (.lrem, 1)) (hy : ¬ y = 0) (k :  Gp P own mn cc ret (pc + 1) ls (vJ (x - x / y * y) :: st) h o) : Gp P own mn cc ret pc ls (vJ y :: vJ x :: st) h o :=
  ⟨k.1, fun M hK hm => go_lremK (K := mkC P M) hK d hy (k.at M hK hm)⟩
theorem g_lrem {x y : Int64} (d : decode cc pc = .ok (.lrem, 1)) (k :  Gp P own mn cc ret (pc + 1) ls (vJ (x - x / y * y) :: st) h o) : Gp P own mn cc ret pc ls (vJ y :: vJ x :: st) h (if y = 0 then none else o) :=
  ⟨mono_if mono_none k.1, fun M hK hm => go_lrem (K := mkC P M) hK d (k.at M hK hm)⟩
theorem g_ladd {x y : Int64} (d : decode cc pc = .ok (.ladd, 1)) (k :  Gp P own mn cc ret (pc + 1) ls (vJ (x + y) :: st) h o) : Gp P own mn cc ret pc ls (vJ y :: vJ x :: st) h o :=
  ⟨k.1, fun M hK hm => go_ladd (K := mkC P M) hK d (k.at M hK hm)⟩
theorem g_lmul {x y : Int64} (d : decode cc pc = .ok (.lmul, 1)) (k :  Gp P own mn cc ret (pc + 1) ls (vJ (x * y) :: st) h o) : Gp P own mn cc ret pc ls (vJ y :: vJ x :: st) h o :=
  ⟨k.1, fun M hK hm => go_lmul (K := mkC P M) hK d (k.at M hK hm)⟩
theorem g_lneg {x : Int64} (d : decode cc pc = .ok (.lneg, 1)) (k :  Gp P own mn cc ret (pc + 1) ls (vJ (-x) :: st) h o) : Gp P own mn cc ret pc ls (vJ x :: st) h o :=
  ⟨k.1, fun M hK hm => go_lneg (K := mkC P M) hK d (k.at M hK hm)⟩
theorem g_lcmp {x y : Int64} (d : decode cc pc = .ok (.lcmp, 1)) (k :  Gp P own mn cc ret (pc + 1) ls (vI (lg_cmp x y) :: st) h o) : Gp P own mn cc ret pc ls (vJ y :: vJ x :: st) h o :=
  ⟨k.1, fun M hK hm => go_lcmp (K := mkC P M) hK d (k.at M hK hm)⟩
theorem g_i2l {x : Int32} (d : decode cc pc = .ok (.i2l, 1)) (k :  Gp P own mn cc ret (pc + 1) ls (vJ (x.toInt64) :: st) h o) : Gp P own mn cc ret pc ls (vI x :: st) h o :=
  ⟨k.1, fun M hK hm => go_i2l (K := mkC P M) hK d (k.at M hK hm)⟩
theorem g_i2b {x : Int32} (d : decode cc pc = .ok (.i2b, 1)) (k :  Gp P own mn cc ret (pc + 1) ls (vI (x.toInt8.toInt32) :: st) h o) : Gp P own mn cc ret pc ls (vI x :: st) h o :=
  ⟨k.1, fun M hK hm => go_i2b (K := mkC P M) hK d (k.at M hK hm)⟩
theorem g_i2s {x : Int32} (d : decode cc pc = .ok (.i2s, 1)) (k :  Gp P own mn cc ret (pc + 1) ls (vI (x.toInt16.toInt32) :: st) h o) : Gp P own mn cc ret pc ls (vI x :: st) h o :=
  ⟨k.1, fun M hK hm => go_i2s (K := mkC P M) hK d (k.at M hK hm)⟩
theorem g_dup {v : AV} (d : decode cc pc = .ok (.dup, 1)) (e : ac v = 1) (k :  Gp P own mn cc ret (pc + 1) ls (v :: v :: st) h o) : Gp P own mn cc ret pc ls (v :: st) h o :=
  ⟨k.1, fun M hK hm => go_dup (K := mkC P M) hK d e (k.at M hK hm)⟩
theorem g_dup2 {v u : AV} (d : decode cc pc = .ok (.dup2, 1)) (e : ac v = 1) (e2 : ac u = 1) (k :  Gp P own mn cc ret (pc + 1) ls (v :: u :: v :: u :: st) h o) : Gp P own mn cc ret pc ls (v :: u :: st) h o :=
  ⟨k.1, fun M hK hm => go_dup2 (K := mkC P M) hK d e e2 (k.at M hK hm)⟩
theorem g_goto {off : Int} {tgt : Nat} (d : decode cc pc = .ok (.goto off, 3)) (t : (pc : Int) + off = (tgt : Int)) (k :  Gp P own mn cc ret tgt ls st h o) : Gp P own mn cc ret pc ls st h o :=
  ⟨k.1, fun M hK hm => go_goto (K := mkC P M) hK d t (k.at M hK hm)⟩
theorem g_ifeq {x : Int32} {off : Int} {tgt : Nat} {oa ob : Option (α × AH)} (d : decode cc pc = .ok (.ifCond .eq off, 3)) (t : (pc : Int) + off = (tgt : Int)) (kt :  Gp P own mn cc ret tgt ls st h oa) (kf :  Gp P own mn cc ret (pc + 3) ls st h ob) : Gp P own mn cc ret pc ls (vI x :: st) h (if x = 0 then oa else ob) :=
  ⟨mono_if kt.1 kf.1, fun M hK hm => go_ifeq (K := mkC P M) hK d t (kt.at M hK hm) (kf.at M hK hm)⟩
theorem g_icmpeq {x y : Int32} {off : Int} {tgt : Nat} {oa ob : Option (α × AH)} (d : decode cc pc = .ok (.if_icmp .eq off, 3)) (t : (pc : Int) + off = (tgt : Int)) (kt :  Gp P own mn cc ret tgt ls st h oa) (kf :  Gp P own mn cc ret (pc + 3) ls st h ob) : Gp P own mn cc ret pc ls (vI y :: vI x :: st) h (if x = y then oa else ob) :=
  ⟨mono_if kt.1 kf.1, fun M hK hm => go_icmpeq (K := mkC P M) hK d t (kt.at M hK hm) (kf.at M hK hm)⟩
theorem g_ifne {x : Int32} {off : Int} {tgt : Nat} {oa ob : Option (α × AH)} (d : decode cc pc = .ok (.ifCond .ne off, 3)) (t : (pc : Int) + off = (tgt : Int)) (kt :  Gp P own mn cc ret tgt ls st h oa) (kf :  Gp P own mn cc ret (pc + 3) ls st h ob) : Gp P own mn cc ret pc ls (vI x :: st) h (if x = 0 then ob else oa) :=
  ⟨mono_if kf.1 kt.1, fun M hK hm => go_ifne (K := mkC P M) hK d t (kt.at M hK hm) (kf.at M hK hm)⟩
theorem g_icmpne {x y : Int32} {off : Int} {tgt : Nat} {oa ob : Option (α × AH)} (d : decode cc pc = .ok (.if_icmp .ne off, 3)) (t : (pc : Int) + off = (tgt : Int)) (kt :  Gp P own mn cc ret tgt ls st h oa) (kf :  Gp P own mn cc ret (pc + 3) ls st h ob) : Gp P own mn cc ret pc ls (vI y :: vI x :: st) h (if x = y then ob else oa) :=
  ⟨mono_if kf.1 kt.1, fun M hK hm => go_icmpne (K := mkC P M) hK d t (kt.at M hK hm) (kf.at M hK hm)⟩
theorem g_iflt {x : Int32} {off : Int} {tgt : Nat} {oa ob : Option (α × AH)} (d : decode cc pc = .ok (.ifCond .lt off, 3)) (t : (pc : Int) + off = (tgt : Int)) (kt :  Gp P own mn cc ret tgt ls st h oa) (kf :  Gp P own mn cc ret (pc + 3) ls st h ob) : Gp P own mn cc ret pc ls (vI x :: st) h (if x < 0 then oa else ob) :=
  ⟨mono_if kt.1 kf.1, fun M hK hm => go_iflt (K := mkC P M) hK d t (kt.at M hK hm) (kf.at M hK hm)⟩
theorem g_icmplt {x y : Int32} {off : Int} {tgt : Nat} {oa ob : Option (α × AH)} (d : decode cc pc = .ok (.if_icmp .lt off, 3)) (t : (pc : Int) + off = (tgt : Int)) (kt :  Gp P own mn cc ret tgt ls st h oa) (kf :  Gp P own mn cc ret (pc + 3) ls st h ob) : Gp P own mn cc ret pc ls (vI y :: vI x :: st) h (if x < y then oa else ob) :=
  ⟨mono_if kt.1 kf.1, fun M hK hm => go_icmplt (K := mkC P M) hK d t (kt.at M hK hm) (kf.at M hK hm)⟩
theorem g_ifge {x : Int32} {off : Int} {tgt : Nat} {oa ob : Option (α × AH)} (d : decode cc pc = .ok (.ifCond .ge off, 3)) (t : (pc : Int) + off = (tgt : Int)) (kt :  Gp P own mn cc ret tgt ls st h oa) (kf :  Gp P own mn cc ret (pc + 3) ls st h ob) : Gp P own mn cc ret pc ls (vI x :: st) h (if 0 ≤ x then oa else ob) :=
  ⟨mono_if kt.1 kf.1, fun M hK hm => go_ifge (K := mkC P M) hK d t (kt.at M hK hm) (kf.at M hK hm)⟩
theorem g_icmpge {x y : Int32} {off : Int} {tgt : Nat} {oa ob : Option (α × AH)} (d : decode cc pc = .ok (.if_icmp .ge off, 3)) (t : (pc : Int) + off = (tgt : Int)) (kt :  Gp P own mn cc ret tgt ls st h oa) (kf :  Gp P own mn cc ret (pc + 3) ls st h ob) : Gp P own mn cc ret pc ls (vI y :: vI x :: st) h (if y ≤ x then oa else ob) :=
  ⟨mono_if kt.1 kf.1, fun M hK hm => go_icmpge (K := mkC P M) hK d t (kt.at M hK hm) (kf.at M hK hm)⟩
theorem g_ifgt {x : Int32} {off : Int} {tgt : Nat} {oa ob : Option (α × AH)} (d : decode cc pc = .ok (.ifCond .gt off, 3)) (t : (pc : Int) + off = (tgt : Int)) (kt :  Gp P own mn cc ret tgt ls st h oa) (kf :  Gp P own mn cc ret (pc + 3) ls st h ob) : Gp P own mn cc ret pc ls (vI x :: st) h (if 0 < x then oa else ob) :=
  ⟨mono_if kt.1 kf.1, fun M hK hm => go_ifgt (K := mkC P M) hK d t (kt.at M hK hm) (kf.at M hK hm)⟩
theorem g_icmpgt {x y : Int32} {off : Int} {tgt : Nat} {oa ob : Option (α × AH)} (d : decode cc pc = .ok (.if_icmp .gt off, 3)) (t : (pc : Int) + off = (tgt : Int)) (kt :  Gp P own mn cc ret tgt ls st h oa) (kf :  Gp P own mn cc ret (pc + 3) ls st h ob) : Gp P own mn cc ret pc ls (vI y :: vI x :: st) h (if y < x then oa else ob) :=
  ⟨mono_if kt.1 kf.1, fun M hK hm => go_icmpgt (K := mkC P M) hK d t (kt.at M hK hm) (kf.at M hK hm)⟩
theorem g_ifle {x : Int32} {off : Int} {tgt : Nat} {oa ob : Option (α × AH)} (d : decode cc pc = .ok (.ifCond .le off, 3)) (t : (pc : Int) + off = (tgt : Int)) (kt :  Gp P own mn cc ret tgt ls st h oa) (kf :  Gp P own mn cc ret (pc + 3) ls st h ob) : Gp P own mn cc ret pc ls (vI x :: st) h (if x ≤ 0 then oa else ob) :=
  ⟨mono_if kt.1 kf.1, fun M hK hm => go_ifle (K := mkC P M) hK d t (kt.at M hK hm) (kf.at M hK hm)⟩
theorem g_icmple {x y : Int32} {off : Int} {tgt : Nat} {oa ob : Option (α × AH)} (d : decode cc pc = .ok (.if_icmp .le off, 3)) (t : (pc : Int) + off = (tgt : Int)) (kt :  Gp P own mn cc ret tgt ls st h oa) (kf :  Gp P own mn cc ret (pc + 3) ls st h ob) : Gp P own mn cc ret pc ls (vI y :: vI x :: st) h (if x ≤ y then oa else ob) :=
  ⟨mono_if kt.1 kf.1, fun M hK hm => go_icmple (K := mkC P M) hK d t (kt.at M hK hm) (kf.at M hK hm)⟩
theorem g_ifnull {x : Option Nat} {off : Int} {tgt : Nat} {oa ob : Option (α × AH)} (d : decode cc pc = .ok (.ifnull off, 3)) (t : (pc : Int) + off = (tgt : Int)) (kt :  Gp P own mn cc ret tgt ls st h oa) (kf :  Gp P own mn cc ret (pc + 3) ls st h ob) : Gp P own mn cc ret pc ls (vR x :: st) h (if x = none then oa else ob) :=
  ⟨mono_if kt.1 kf.1, fun M hK hm => go_ifnull (K := mkC P M) hK d t (kt.at M hK hm) (kf.at M hK hm)⟩
theorem g_ifnonnull {x : Option Nat} {off : Int} {tgt : Nat} {oa ob : Option (α × AH)} (d : decode cc pc = .ok (.ifnonnull off, 3)) (t : (pc : Int) + off = (tgt : Int)) (kt :  Gp P own mn cc ret tgt ls st h oa) (kf :  Gp P own mn cc ret (pc + 3) ls st h ob) : Gp P own mn cc ret pc ls (vR x :: st) h (if x = none then ob else oa) :=
  ⟨mono_if kf.1 kt.1, fun M hK hm => go_ifnonnull (K := mkC P M) hK d t (kt.at M hK hm) (kf.at M hK hm)⟩
theorem g_tsIn {dflt lo hi off : Int} {offs : Array Int} {len tgt : Nat} {x c : Int32} {oa ob : Option (α × AH)} (d : decode cc pc = .ok (.tableswitch dflt lo hi offs, len)) (h1 : ¬ c.toInt < lo) (h2 : ¬ hi < c.toInt) (ho : offs[(c.toInt - lo).toNat]? = some off) (t : (pc : Int) + off = (tgt : Int)) (kt :  Gp P own mn cc ret tgt ls st h oa) (kf : ¬ x = c → Gp P own mn cc ret pc ls (vI x :: st) h ob) : Gp P own mn cc ret pc ls (vI x :: st) h (if x = c then oa else ob) :=
  ⟨fun r h' e => by
    by_cases z : x = c
    · rw [if_pos z] at e; exact kt.1 r h' e
    · rw [if_neg z] at e; exact (kf z).1 r h' e, fun M hK hm => go_tsIn (K := mkC P M) hK d h1 h2 ho t (kt.at M hK hm) (fun z => (kf z).at M hK hm)⟩
theorem g_tsOut {dflt lo hi : Int} {offs : Array Int} {len tgt : Nat} {x : Int32} (d : decode cc pc = .ok (.tableswitch dflt lo hi offs, len)) (hx : x.toInt < lo ∨ hi < x.toInt) (t : (pc : Int) + dflt = (tgt : Int)) (k :  Gp P own mn cc ret tgt ls st h o) : Gp P own mn cc ret pc ls (vI x :: st) h o :=
  ⟨k.1, fun M hK hm => go_tsOut (K := mkC P M) hK d hx t (k.at M hK hm)⟩
theorem g_lsIn {dflt off : Int} {ps : Array (Int × Int)} {len tgt : Nat} {x c : Int32} {oa ob : Option (α × AH)} (d : decode cc pc = .ok (.lookupswitch dflt ps, len)) (hp : (ps.toList.zip (ps.toList.drop 1)).all (fun (a, next) => a.1 < next.1) = true) (ho : Op.lookupswitch.offset ps.toList dflt c.toInt = off) (t : (pc : Int) + off = (tgt : Int)) (kt :  Gp P own mn cc ret tgt ls st h oa) (kf : ¬ x = c → Gp P own mn cc ret pc ls (vI x :: st) h ob) : Gp P own mn cc ret pc ls (vI x :: st) h (if x = c then oa else ob) :=
  ⟨fun r h' e => by
    by_cases z : x = c
    · rw [if_pos z] at e; exact kt.1 r h' e
    · rw [if_neg z] at e; exact (kf z).1 r h' e, fun M hK hm => go_lsIn (K := mkC P M) hK d hp ho t (kt.at M hK hm) (fun z => (kf z).at M hK hm)⟩
theorem g_lsOut {dflt : Int} {ps : Array (Int × Int)} {len tgt : Nat} {x : Int32} (d : decode cc pc = .ok (.lookupswitch dflt ps, len)) (hp : (ps.toList.zip (ps.toList.drop 1)).all (fun (a, next) => a.1 < next.1) = true) (ho : Op.lookupswitch.offset ps.toList dflt x.toInt = dflt) (t : (pc : Int) + dflt = (tgt : Int)) (k :  Gp P own mn cc ret tgt ls st h o) : Gp P own mn cc ret pc ls (vI x :: st) h o :=
  ⟨k.1, fun M hK hm => go_lsOut (K := mkC P M) hK d hp ho t (k.at M hK hm)⟩
theorem g_nmI {x : Int32} {f : Int32 → Option (α × AH)} (k : ∀ y : Int32, Gp P own mn cc ret pc ls (vI y :: st) h (f y)) : Gp P own mn cc ret pc ls (vI x :: st) h (nm x f) :=
  ⟨(k x).1, fun M hK hm => go_nmI (K := mkC P M) (fun y => (k y).at M hK hm)⟩
theorem g_nmJ {x : Int64} {f : Int64 → Option (α × AH)} (k : ∀ y : Int64, Gp P own mn cc ret pc ls (vJ y :: st) h (f y)) : Gp P own mn cc ret pc ls (vJ x :: st) h (nm x f) :=
  ⟨(k x).1, fun M hK hm => go_nmJ (K := mkC P M) (fun y => (k y).at M hK hm)⟩
theorem g_getI {fam : List Nat} {k : Nat} {ref nm ds : String} {fin : Bool} {idx : Nat} (hl : Cond.fieldLink own idx ref nm ds ∈ Tg) (hf : famOK fam k ref nm ds true fin) {o : Option Nat} {f : Int32 → Option (α × AH)} (d : decode cc pc = .ok (.getfield idx, 3)) (kk : ∀ x, Gp P own mn cc ret (pc + 3) ls (vI x :: st) h (f x)) : Gp P own mn cc ret pc ls (vR o :: st) h ((gI h o fam k).bind f) :=
  ⟨mono_bind (fun x => (kk x).1), fun M hK hm => go_getI (K := mkC P M) hK hl hf d (fun x => (kk x).at M hK hm)⟩
theorem g_getR {fam : List Nat} {k : Nat} {ref nm ds : String} {fin : Bool} {idx : Nat} (hl : Cond.fieldLink own idx ref nm ds ∈ Tg) (hf : famOK fam k ref nm ds false fin) {o : Option Nat} {f : Option Nat → Option (α × AH)} (d : decode cc pc = .ok (.getfield idx, 3)) (kk : ∀ x, Gp P own mn cc ret (pc + 3) ls (vR x :: st) h (f x)) : Gp P own mn cc ret pc ls (vR o :: st) h ((gR h o fam k).bind f) :=
  ⟨mono_bind (fun x => (kk x).1), fun M hK hm => go_getR (K := mkC P M) hK hl hf d (fun x => (kk x).at M hK hm)⟩
theorem g_putI {fam : List Nat} {k : Nat} {ref nm ds : String} {idx : Nat} (hl : Cond.fieldLink own idx ref nm ds ∈ Tg) (hf : famOK fam k ref nm ds true false) {ty : FieldType} (hd : parseFieldDescriptor ds = some ty) {o : Option Nat} {v : Int32} (hn : narrow ty (.int v) = .int v) (hft : fits ty (.int v) = true) {f : AH → Option (α × AH)} (d : decode cc pc = .ok (.putfield idx, 3)) (kk : ∀ h2, Gp P own mn cc ret (pc + 3) ls st h2 (f h2)) : Gp P own mn cc ret pc ls (vI v :: vR o :: st) h ((pI h o fam k v).bind f) :=
  ⟨mono_put (fun _ e => pI_1 e) (fun x => (kk x).1), fun M hK hm => go_putI (K := mkC P M) hK hl hf hd hn hft d (fun h2 => (kk h2).at M hK hm)⟩
theorem g_putIF {fam : List Nat} {k : Nat} {ref nm ds : String} {idx : Nat} (hl : Cond.fieldLink own idx ref nm ds ∈ Tg) (hf : famOK fam k ref nm ds true true) (hown : ∀ ci ∈ fam, ∀ C T N, vwCl[ci]? = some (C, T, N) → (T k).1 = own) {ty : FieldType} (hd : parseFieldDescriptor ds = some ty) {o : Option Nat} {v : Int32} (hn : narrow ty (.int v) = .int v) (hft : fits ty (.int v) = true) {f : AH → Option (α × AH)} (d : decode cc pc = .ok (.putfield idx, 3)) (kk : ∀ h2, Gp P own "<init>" cc ret (pc + 3) ls st h2 (f h2)) : Gp P own "<init>" cc ret pc ls (vI v :: vR o :: st) h ((pI h o fam k v).bind f) :=
  ⟨mono_put (fun _ e => pI_1 e) (fun x => (kk x).1), fun M hK hm => go_putIF (K := mkC P M) hK hm hl hf hown hd hn hft d (fun h2 => (kk h2).at M hK hm)⟩
theorem g_putR {fam : List Nat} {k : Nat} {ref nm ds : String} {idx : Nat} (hl : Cond.fieldLink own idx ref nm ds ∈ Tg) (hf : famOK fam k ref nm ds false false) {ty : FieldType} (hd : parseFieldDescriptor ds = some ty) {o : Option Nat} {v : Option Nat} (hn : narrow ty (rv P.1.2.2.2.1 v) = rv P.1.2.2.2.1 v) (hft : fits ty (rv P.1.2.2.2.1 v) = true) {f : AH → Option (α × AH)} (d : decode cc pc = .ok (.putfield idx, 3)) (kk : ∀ h2, Gp P own mn cc ret (pc + 3) ls st h2 (f h2)) : Gp P own mn cc ret pc ls (vR v :: vR o :: st) h ((pR h o fam k v).bind f) :=
  ⟨mono_put (fun _ e => pR_1 e) (fun x => (kk x).1), fun M hK hm => go_putR (K := mkC P M) hK hl hf hd hn hft d (fun h2 => (kk h2).at M hK hm)⟩
theorem g_putRF {fam : List Nat} {k : Nat} {ref nm ds : String} {idx : Nat} (hl : Cond.fieldLink own idx ref nm ds ∈ Tg) (hf : famOK fam k ref nm ds false true) (hown : ∀ ci ∈ fam, ∀ C T N, vwCl[ci]? = some (C, T, N) → (T k).1 = own) {ty : FieldType} (hd : parseFieldDescriptor ds = some ty) {o : Option Nat} {v : Option Nat} (hn : narrow ty (rv P.1.2.2.2.1 v) = rv P.1.2.2.2.1 v) (hft : fits ty (rv P.1.2.2.2.1 v) = true) {f : AH → Option (α × AH)} (d : decode cc pc = .ok (.putfield idx, 3)) (kk : ∀ h2, Gp P own "<init>" cc ret (pc + 3) ls st h2 (f h2)) : Gp P own "<init>" cc ret pc ls (vR v :: vR o :: st) h ((pR h o fam k v).bind f) :=
  ⟨mono_put (fun _ e => pR_1 e) (fun x => (kk x).1), fun M hK hm => go_putRF (K := mkC P M) hK hm hl hf hown hd hn hft d (fun h2 => (kk h2).at M hK hm)⟩
theorem g_iaload {o : Option Nat} {i : Int32} {f : Int32 → Option (α × AH)} (d : decode cc pc = .ok (.iaload, 1)) (kk : ∀ x, Gp P own mn cc ret (pc + 1) ls (vI x :: st) h (f x)) : Gp P own mn cc ret pc ls (vI i :: vR o :: st) h ((iA h o i).bind f) :=
  ⟨mono_bind (fun x => (kk x).1), fun M hK hm => go_iaload (K := mkC P M) hK d (fun x => (kk x).at M hK hm)⟩
theorem g_laload {o : Option Nat} {i : Int32} {f : Int64 → Option (α × AH)} (d : decode cc pc = .ok (.laload, 1)) (kk : ∀ x, Gp P own mn cc ret (pc + 1) ls (vJ x :: st) h (f x)) : Gp P own mn cc ret pc ls (vI i :: vR o :: st) h ((jA h o i).bind f) :=
  ⟨mono_bind (fun x => (kk x).1), fun M hK hm => go_laload (K := mkC P M) hK d (fun x => (kk x).at M hK hm)⟩
theorem g_iastore {o : Option Nat} {i v : Int32} {f : AH → Option (α × AH)} (d : decode cc pc = .ok (.iastore, 1)) (kk : ∀ h2, Gp P own mn cc ret (pc + 1) ls st h2 (f h2)) : Gp P own mn cc ret pc ls (vI v :: vI i :: vR o :: st) h ((iS h o i v).bind f) :=
  ⟨mono_put (fun _ e => iS_1 e) (fun x => (kk x).1), fun M hK hm => go_iastore (K := mkC P M) hK d (fun h2 => (kk h2).at M hK hm)⟩
theorem g_lastore {o : Option Nat} {i : Int32} {v : Int64} {f : AH → Option (α × AH)} (d : decode cc pc = .ok (.lastore, 1)) (kk : ∀ h2, Gp P own mn cc ret (pc + 1) ls st h2 (f h2)) : Gp P own mn cc ret pc ls (vJ v :: vI i :: vR o :: st) h ((jS h o i v).bind f) :=
  ⟨mono_put (fun _ e => jS_1 e) (fun x => (kk x).1), fun M hK hm => go_lastore (K := mkC P M) hK d (fun h2 => (kk h2).at M hK hm)⟩
theorem g_aaload {kd : Nat} (h2 : 2 ≤ kd) (h4 : kd < 4) {o : Option Nat} {i : Int32} {f : Option Nat → Option (α × AH)} (d : decode cc pc = .ok (.aaload, 1)) (kk : ∀ x, Gp P own mn cc ret (pc + 1) ls (vR x :: st) h (f x)) : Gp P own mn cc ret pc ls (vI i :: vR o :: st) h ((rA h o kd i).bind f) :=
  ⟨mono_bind (fun x => (kk x).1), fun M hK hm => go_aaload (K := mkC P M) hK h2 h4 d (fun x => (kk x).at M hK hm)⟩
theorem g_alenI {o : Option Nat} {f : Int32 → Option (α × AH)} (d : decode cc pc = .ok (.arraylength, 1)) (kk : ∀ x, Gp P own mn cc ret (pc + 1) ls (vI x :: st) h (f x)) : Gp P own mn cc ret pc ls (vR o :: st) h ((lenI h o).bind f) :=
  ⟨mono_bind (fun x => (kk x).1), fun M hK hm => go_alenI (K := mkC P M) hK d (fun x => (kk x).at M hK hm)⟩
theorem g_aastore {kd : Nat} {fam : List Nat} (h2 : 2 ≤ kd) (h4 : kd < 4) (hasg : asgOK kd fam) {o : Option Nat} {i : Int32} {v : Option Nat} {f : AH → Option (α × AH)} (d : decode cc pc = .ok (.aastore, 1)) (kk : ∀ h2, Gp P own mn cc ret (pc + 1) ls st h2 (f h2)) : Gp P own mn cc ret pc ls (vR v :: vI i :: vR o :: st) h ((rS h o kd fam i v).bind f) :=
  ⟨mono_put (fun _ e => rS_1 e) (fun x => (kk x).1), fun M hK hm => go_aastore (K := mkC P M) hK h2 h4 hasg d (fun h2 => (kk h2).at M hK hm)⟩
theorem g_new {ci N idx : Nat} {C : String} {T : u_T} (hc : clsOK ci C T N) (hl : Cond.classLink own idx C ∈ Tg) (hi : Cond.instantiable C N ∈ Tg) (hz : Cond.initialized C ∈ Tg) {f : Option Nat → AH → Option (α × AH)} (d : decode cc pc = .ok (.new idx, 3)) (kk : ∀ a h2, Gp P own mn cc ret (pc + 3) ls (vR a :: st) h2 (f a h2)) : Gp P own mn cc ret pc ls st h (bd (nO h ci N) f) :=
  ⟨mono_bd mono_nw (fun x y => (kk x y).1), fun M hK hm => go_new (K := mkC P M) hK hc hl hi hz d (fun a h2 => (kk a h2).at M hK hm)⟩
theorem g_newarrayI (hw : Cond.arrayClass .int ∈ Tg) {n : Int32} {f : Option Nat → AH → Option (α × AH)} (d : decode cc pc = .ok (.newarray .int, 2)) (kk : ∀ a h2, Gp P own mn cc ret (pc + 2) ls (vR a :: st) h2 (f a h2)) : Gp P own mn cc ret pc ls (vI n :: st) h (bd (nA h 0 n) f) :=
  ⟨mono_bd mono_nA (fun x y => (kk x y).1), fun M hK hm => go_newarrayI (K := mkC P M) hK hw d (fun a h2 => (kk a h2).at M hK hm)⟩
theorem g_newarrayJ (hw : Cond.arrayClass .long ∈ Tg) {n : Int32} {f : Option Nat → AH → Option (α × AH)} (d : decode cc pc = .ok (.newarray .long, 2)) (kk : ∀ a h2, Gp P own mn cc ret (pc + 2) ls (vR a :: st) h2 (f a h2)) : Gp P own mn cc ret pc ls (vI n :: st) h (bd (nA h 1 n) f) :=
  ⟨mono_bd mono_nA (fun x y => (kk x y).1), fun M hK hm => go_newarrayJ (K := mkC P M) hK hw d (fun a h2 => (kk a h2).at M hK hm)⟩
theorem g_anewarray {kd idx : Nat} {C : String} (h2 : 2 ≤ kd) (h4 : kd < 4) (hE : arT kd = .object C) (hl : Cond.classLink own idx C ∈ Tg) (hw : Cond.arrayOver (.object C) ∈ lw_tbl) {n : Int32} {f : Option Nat → AH → Option (α × AH)} (d : decode cc pc = .ok (.anewarray idx, 3)) (kk : ∀ a h2, Gp P own mn cc ret (pc + 3) ls (vR a :: st) h2 (f a h2)) : Gp P own mn cc ret pc ls (vI n :: st) h (bd (nA h kd n) f) :=
  ⟨mono_bd mono_nA (fun x y => (kk x y).1), fun M hK hm => go_anewarray (K := mkC P M) hK h2 h4 hE hl hw d (fun a h2 => (kk a h2).at M hK hm)⟩
theorem g_ireturn {P : PX Int32} {x : Int32} (hr : P.2.1 x = some (.int x)) (d : decode cc pc = .ok (.ireturn, 1)) : Gp P own mn cc (some .int) pc ls [vI x] h (some (x, h)) :=
  ⟨mono_some, fun M hK hm => go_ireturn (K := mkC P M) hK hr d⟩
theorem g_zreturn {P : PX Int32} {x : Int32} (hn : narrow .boolean (.int x) = .int x) (hr : P.2.1 x = some (.int x)) (d : decode cc pc = .ok (.ireturn, 1)) : Gp P own mn cc (some .boolean) pc ls [vI x] h (some (x, h)) :=
  ⟨mono_some, fun M hK hm => go_zreturn (K := mkC P M) hK hn hr d⟩
theorem g_zreturnV {P : PX Int32} {x : Int32} (hr : ∀ x, P.2.1 x = some (.int x)) (d : decode cc pc = .ok (.ireturn, 1)) : Gp P own mn cc (some .boolean) pc ls [vI x] h (rb x h) :=
  ⟨mono_if mono_some (mono_if mono_some mono_none), fun M hK hm => go_zreturnV (K := mkC P M) hK hr d⟩
theorem g_lreturn {P : PX Int64} {x : Int64} (hr : P.2.1 x = some (.long x)) (d : decode cc pc = .ok (.lreturn, 1)) : Gp P own mn cc (some .long) pc ls [vJ x] h (some (x, h)) :=
  ⟨mono_some, fun M hK hm => go_lreturn (K := mkC P M) hK hr d⟩
theorem g_areturn {P : PX (Option Nat)} {C : String} {x : Option Nat} (hr : P.2.1 x = some (rv P.1.2.2.2.1 x)) (d : decode cc pc = .ok (.areturn, 1)) : Gp P own mn cc (some (.object C)) pc ls [vR x] h (some (x, h)) :=
  ⟨mono_some, fun M hK hm => go_areturn (K := mkC P M) hK hr d⟩
theorem g_return {P : PX Unit} (hr : P.2.1 () = none) (d : decode cc pc = .ok (.return_, 1)) : Gp P own mn cc none pc ls [] h (some ((), h)) :=
  ⟨mono_some, fun M hK hm => go_return (K := mkC P M) hK hr d⟩
end GP
end
section
/-! METHODS: what a method's function says of it; calls -/
/-- y, called with vs over the heap h, answers r over h' -/
def Ct (X : GX) (y : MethodName) (cc : ByteArray) (maxL : Nat) (ret : Option FieldType) (fr lo : Nat) (vs : List AV) (h : AH) (r : Option Value) (h' : AH) : Prop :=
  Met X.1 y [Cond.code y cc maxL ret] { frames := fr, cells := aN h' - aN h, slots := aS h' - aS h, locals := lo } (va_Pc (stV X.2.2.2.1 vs) (fun U => X.2.1.WarmedH U.vm ∧ HP X h U.heap)) (Qf X r h') (aN h' - aN h) (aS h' - aS h) (fun q => X.2.2.2.1 ≤ q)
def Snd {α : Type} (X : GX) (y : MethodName) (cc : ByteArray) (maxL : Nat) (ret : Option FieldType) (fr lo : Nat) (ρ : α → Option Value) (vs : List AV) (h : AH) (o : Option (α × AH)) : Prop :=
  Mono h o ∧ ∀ (r : α) (h' : AH), o = some (r, h') → Ct X y cc maxL ret fr lo vs h (ρ r) h'
def lvA : Nat → List AV → List (Nat × AV)
  | _, [] => []
  | i, v :: vs => (i, v) :: lvA (if ac v = 2 then i + 2 else i + 1) vs
theorem lvA_V (B : Nat) : ∀ (vs : List AV) (i : Nat), lsV B (lvA i vs) = lv_args i (stV B vs)
  | [], _ => rfl
  | v :: vs, i => by
    show (i, av B v) :: lsV B (lvA _ vs) = (i, av B v) :: lv_args (if (av B v).category = 2 then i + 2 else i + 1) (stV B vs)
    rw [lvA_V B vs, av_cat]
def slN : List AV → Nat
  | [] => 0
  | v :: vs => (if ac v = 2 then 2 else 1) + slN vs
theorem slN_eq (B : Nat) : ∀ vs : List AV, (lg_sl (stV B vs)).length = slN vs
  | [] => rfl
  | v :: vs => by
    have ih := slN_eq B vs
    show ((if (av B v).category = 2 then [Slot.val (av B v), Slot.second] else [Slot.val (av B v)]) ++ lg_sl (stV B vs)).length = _
    rw [List.length_append, ih, av_cat]
    show _ = (if ac v = 2 then 2 else 1) + slN vs
    by_cases hc : ac v = 2
    · rw [if_pos hc, if_pos hc]; rfl
    · rw [if_neg hc, if_neg hc]; rfl
/-- a method, out of the walk of its body -/
theorem snd_of {α : Type} {X : GX} (hX : XOK X) {y : MethodName} {cc : ByteArray} {maxL fr lo : Nat} {ret : Option FieldType} {ρ : α → Option Value} {vs : List AV} {h : AH} {o : Option (α × AH)} (hy : plainName y.cls = true) (hv : slN vs ≤ maxL) (body : Gp (X, ρ, (fr, lo, maxL), h) y.cls y.name cc ret 0 (lvA 0 vs) [] h o) : Snd X y cc maxL ret fr lo ρ vs h o := by
  refine ⟨body.1, fun r h' ho => ?_⟩
  refine Met.ofW (cc := cc) (maxL := maxL) (ret := ret) hy rfl ?_
  intro p e s m args below meth c s₁ B hml hv0
  obtain ⟨rfl, hwm, hP⟩ := hv0
  have hn := findClass_of_methodNamed B.named
  have hK : KOK (mkC (X, ρ, (fr, lo, maxL), h) (p, e, s, m, (stV X.2.2.2.1 vs).toArray, below, meth, c)) y.cls cc ret := ⟨B.exec, B.bytes, hml, hn, hwm, B.returns, B.notSynchronized, hX⟩
  have hw := (body.2 (p, e, s, m, (stV X.2.2.2.1 vs).toArray, below, meth, c) hK (name_of_methodNamed B.named B.method).1 r h' ho).2 (aLe.rf h) s.heap []
  have hl := lv_entry (stV X.2.2.2.1 vs) (n := maxL) (by rw [slN_eq]; exact hv)
  rw [lg_entry_eq]
  have hw2 := hw _ hP va_S.rf (by rw [lvA_V]; exact hl)
  have z1 : aN h - aN h = 0 := Nat.sub_self _
  have z2 : aS h - aS h = 0 := Nat.sub_self _
  have hw3 : Wk (mkC (X, ρ, (fr, lo, maxL), h) (p, e, s, m, (stV X.2.2.2.1 vs).toArray, below, meth, c)) (kR (mkC (X, ρ, (fr, lo, maxL), h) (p, e, s, m, (stV X.2.2.2.1 vs).toArray, below, meth, c)) h') (kQ (mkC (X, ρ, (fr, lo, maxL), h) (p, e, s, m, (stV X.2.2.2.1 vs).toArray, below, meth, c)) r h') s.heap [] (aN h - aN h) (aS h - aS h) 0 _ [] := hw2
  rw [z1, z2] at hw3
  exact hw3
end
section
section CALLS
variable {α β : Type} {K : CX α} {own : String} {cc : ByteArray} {ret : Option FieldType} {pc : Nat} {ls : List (Nat × AV)} {st st0 : List AV} {h : AH}
/-- behind a call whose run is known -/
theorem call_go {ρ : β → Option Value} {o : Option (β × AH)} {f : β → AH → Option (α × AH)} {pv : β → List AV} {ar : Array Value} (hpv : ∀ r, (ρ r).toList = stV K.1.2.2.2.1 (pv r)) (hm : Mono h o) (kk : ∀ r h1, Go K (pc + 3) ls (pv r ++ st) h1 (f r h1))
    (run : ∀ (r1 : β) (h1 h' : AH), o = some (r1, h1) → aLe h1 h' → aLe K.2.2.2.2 h → ∀ (H : Heap) (locs : List Loc) (lsA : Array Slot), HP K.1 h H → lv_has lsA K.2.2.2.1.2.2 (lsV K.1.2.2.2.1 ls) → va_Run K.2.1.1 K.1.1 K.2.1.2.1 (kR K h') K.2.1.2.2.1 K.2.1.2.2.2.1 K.2.1.2.2.2.2.1 K.2.1.2.2.2.2.2.1 K.2.1.2.2.2.2.2.2.1 K.2.1.2.2.2.2.2.2.2 H locs (aN h - aN K.2.2.2.2) (aS h - aS K.2.2.2.2) (aN h1 - aN h) (aS h1 - aS h) (F0 K.2.1.2.2.2.1 pc lsA (stV K.1.2.2.2.1 st0)) (stV K.1.2.2.2.1 st) (Qf K.1 (ρ r1) h1 ar) (fun q => K.1.2.2.2.1 ≤ q)) : Go K pc ls st0 h (bd o f) := by
  intro r h' ho
  cases e : o with
  | none => rw [e] at ho; cases ho
  | some q =>
    rw [e] at ho
    obtain ⟨q1, h1⟩ := q
    have ho : f q1 h1 = some (r, h') := ho
    obtain ⟨m1, m2⟩ := kk q1 h1 r h' ho
    have hle := hm q1 h1 e
    refine ⟨hle.tr m1, fun ha H locs lsA hP hS hls T hT X => ?_⟩
    obtain ⟨v, st₀, t, T', L, h0, X', hL, e1, e2, ⟨hv, hp, hz, hk⟩, step⟩ := run q1 h1 h' e m1 ha H locs lsA hP hls T hT X
    have hv2 : v = ρ q1 := Outcome.returned.inj hv
    subst hv2
    rw [h0] at hz hk
    have hS1 : va_S (fun q => K.1.2.2.2.1 ≤ q) K.2.1.2.2.1.heap T'.heap (locs ++ L) := ⟨Nat.le_trans hS.1 (by rw [e1]; exact hz), fun q g1 g2 => by rw [e1, hk q (Nat.lt_of_lt_of_le g1 hS.1) g2]; exact hS.2.1 q g1 g2, fun q hq => by
      rcases List.mem_append.mp hq with g | g
      · exact hS.2.2 q g
      · exact hL q g⟩
    have z1 : (aN h - aN K.2.2.2.2) + (aN h1 - aN h) = aN h1 - aN K.2.2.2.2 := by have := ha.1; have := hle.1; omega
    have z2 : (aS h - aS K.2.2.2.2) + (aS h1 - aS h) = aS h1 - aS K.2.2.2.2 := by have := ha.2; have := hle.2; omega
    rw [z1, z2] at X'
    obtain ⟨t2, a1, b1⟩ := m2 (ha.tr hle) T'.heap (locs ++ L) lsA (by rw [e1]; exact hp) hS1 hls T' rfl X'
    refine ⟨t2, step t2 ?_, b1⟩
    have hst : stV K.1.2.2.2.1 (pv q1 ++ st) = (ρ q1).toList ++ stV K.1.2.2.2.1 st := by
      rw [hpv]
      unfold stV
      rw [List.map_append]
    rw [← hst]
    exact a1
theorem room_call {K : CX α} {h h1 h' : AH} (ha : aLe K.2.2.2.2 h) (hle : aLe h h1) (m : aLe h1 h') : (aN h - aN K.2.2.2.2) + (aN h1 - aN h) ≤ (kR K h').cells ∧ (aS h - aS K.2.2.2.2) + (aS h1 - aS h) ≤ (kR K h').slots := by
  show _ ≤ aN h' - aN K.2.2.2.2 ∧ _ ≤ aS h' - aS K.2.2.2.2
  obtain ⟨a1, a2⟩ := ha
  obtain ⟨b1, b2⟩ := hle
  obtain ⟨c1, c2⟩ := m
  omega
theorem st_room (B : Nat) {st : List AV} (hs : (st.map ac).sum ≤ 8) : ((stV B st).map fun v => v.category).sum ≤ 8 := by
  have : (stV B st).map (fun v => v.category) = st.map ac := by
    unfold stV
    rw [List.map_map]
    exact List.map_congr_left fun v _ => av_cat B v
  rw [this]
  exact hs
theorem blindP (X : GX) (vs : List Value) (h : AH) : FrameBlind (va_Pc vs (fun U => X.2.1.WarmedH U.vm ∧ HP X h U.heap)) := fun _ _ _ _ q => ⟨q.1, q.2.1, q.2.2⟩
/-- the number of a descriptor's parameters, no handle's class -/
def dsc (c ds : String) (n : Nat) : Prop := c ≠ "java/lang/invoke/MethodHandle" ∧ c ≠ "java/lang/invoke/VarHandle" ∧ (parseMethodDescriptor ds).map (fun d => d.parameters.length) = some n
theorem go_callS (hK : KOK K own cc ret) {ρ : β → Option Value} {pv : β → List AV} (hpv : ∀ r, (ρ r).toList = stV K.1.2.2.2.1 (pv r)) {y : MethodName} {bytes : ByteArray} {maxL fr lo idx n : Nat} {rt : Option FieldType} {vs : List AV} {o : Option (β × AH)} {f : β → AH → Option (α × AH)} (hs : Snd K.1 y bytes maxL rt fr lo ρ vs h o) (hl : Cond.methodLink own idx y ∈ Tg) (hst : Cond.static y ∈ Tg) (hini : Cond.initialized y.cls ∈ Tg) (hcd : Cond.code y bytes maxL rt ∈ Tg) (hd : dsc y.cls y.desc n) (hn : vs.length = n) (hR : fr + 1 ≤ K.2.2.2.1.1 ∧ 8 + (maxL + 11) + lo ≤ K.2.2.2.1.2.1) (hsum : (st.map ac).sum ≤ 8) (est : vs.reverse ++ st = st0) (d : decode cc pc = .ok (.invokestatic idx, 3)) (kk : ∀ r h1, Go K (pc + 3) ls (pv r ++ st) h1 (f r h1)) : Go K pc ls st0 h (bd o f) := by
  subst est
  refine call_go (ar := (stV K.1.2.2.2.1 vs).toArray) hpv hs.1 kk fun r1 h1 h' e hle ha H locs lsA hP hls => ?_
  have hC := hs.2 r1 h1 e
  refine va_runS (As := stV K.1.2.2.2.1 vs) (rest := stV K.1.2.2.2.1 st) ⟨hK.1, hK.2.1, hK.2.2.1, hK.2.2.2.1, hK.hts⟩ hC (va_cwS n hK.hts (gT ?_) rfl rfl rfl hd hR) ⟨blindP _ _ _, fun U hU hW => ⟨rfl, State.WarmedH.trans hK.2.2.2.2.1 hW, by rw [hU]; exact hP⟩⟩ rfl (by show (stV K.1.2.2.2.1 vs).length = n; unfold stV; rw [List.length_map]; exact hn) hls.1 ?_ (lv_room (st_room _ hsum)) d (room_call ha (hs.1 _ _ e) hle)
  · intro w hw
    simp only [va_wsS, List.cons_append, List.nil_append, List.mem_cons, List.not_mem_nil, or_false] at hw
    rcases hw with rfl | rfl | rfl | rfl <;> assumption
  · show stV _ (vs.reverse ++ st) = _
    unfold stV
    rw [List.map_append, List.map_reverse]
theorem go_callSN (hK : KOK K own cc ret) {ρ : β → Option Value} {pv : β → List AV} (hpv : ∀ r, (ρ r).toList = stV K.1.2.2.2.1 (pv r)) {y : MethodName} {host : String} {bytes : ByteArray} {maxL fr lo idx n : Nat} {rt : Option FieldType} {vs : List AV} {o : Option (β × AH)} {f : β → AH → Option (α × AH)} (hs : Snd K.1 y bytes maxL rt fr lo ρ vs h o) (hl : Cond.methodLinkNest own idx y host ∈ lw_tbl) (hst : Cond.static y ∈ Tg) (hini : Cond.initialized y.cls ∈ Tg) (hcd : Cond.code y bytes maxL rt ∈ Tg) (hd : dsc y.cls y.desc n) (hn : vs.length = n) (hR : fr + 1 ≤ K.2.2.2.1.1 ∧ 8 + (maxL + 11) + lo ≤ K.2.2.2.1.2.1) (hsum : (st.map ac).sum ≤ 8) (est : vs.reverse ++ st = st0) (d : decode cc pc = .ok (.invokestatic idx, 3)) (kk : ∀ r h1, Go K (pc + 3) ls (pv r ++ st) h1 (f r h1)) : Go K pc ls st0 h (bd o f) := by
  subst est
  refine call_go (ar := (stV K.1.2.2.2.1 vs).toArray) hpv hs.1 kk fun r1 h1 h' e hle ha H locs lsA hP hls => ?_
  have hC := hs.2 r1 h1 e
  have hnw := va_Nw.warmM hK.2.2.2.2.1 (va_Nw.of rfl (hK.2.2.2.2.2.2.2.1 _ hl))
  refine va_runSN (As := stV K.1.2.2.2.1 vs) (rest := stV K.1.2.2.2.1 st) ⟨hK.1, hK.2.1, hK.2.2.1, hK.2.2.2.1, hK.hts⟩ hC ⟨va_cnB n hK.hts (gT ?_) rfl rfl rfl hnw (hK.hts _ hini) hd hR, hK.hts _ hst, trivial⟩ ⟨blindP _ _ _, fun U hU hW => ⟨rfl, State.WarmedH.trans hK.2.2.2.2.1 hW, by rw [hU]; exact hP⟩⟩ rfl (by show (stV K.1.2.2.2.1 vs).length = n; unfold stV; rw [List.length_map]; exact hn) hls.1 ?_ (lv_room (st_room _ hsum)) d (room_call ha (hs.1 _ _ e) hle)
  · intro w hw
    simp only [List.mem_cons, List.not_mem_nil, or_false] at hw
    rw [hw]; exact hcd
  · show stV _ (vs.reverse ++ st) = _
    unfold stV
    rw [List.map_append, List.map_reverse]
/-- the receiver is an object of class ci -/
def cv {γ : Type} (h : AH) (v : Option Nat) (ci : Nat) (o : Option γ) : Option γ := match v with
  | none => none
  | some a => if aT h a = some (.inr ci) then o else none
theorem cv_some {γ : Type} {v : Option Nat} {ci : Nat} {o : Option γ} {x : γ} (e : cv h v ci o = some x) : ∃ a, v = some a ∧ aT h a = some (.inr ci) ∧ o = some x := by
  unfold cv at e
  split at e
  · cases e
  · split at e
    · exact ⟨_, rfl, by assumption, e⟩
    · cases e
theorem recv (hK : KOK K own cc ret) {a ci : Nat} {C : String} {T : u_T} {N : Nat} (hc : vwCl[ci]? = some (C, T, N)) (hT : aT h a = some (.inr ci)) {H : Heap} (hP : HP K.1 h H) : ∃ cellB : Cell, H[K.1.2.2.2.1 + a]? = some cellB ∧ cellB.vm.isStatics = false ∧ K.2.1.2.2.1.vm.findClass C = some cellB.cls := by
  obtain ⟨-, r, r1, cell, q1, q2, q3, -⟩ := hP.2 a _ hT
  cases r1.symm.trans hc
  exact ⟨cell, q1, by rw [q3]; rfl, by rw [q2]; exact (hK.vk.1 ci _ hc).2.1⟩
theorem stk_rev (B : Nat) (vs : List AV) (v : AV) (st : List AV) : stV B (vs.reverse ++ v :: st) = (stV B vs).reverse ++ av B v :: stV B st := by
  unfold stV
  rw [List.map_append, List.map_reverse]
  rfl
theorem go_callV (hK : KOK K own cc ret) {ρ : β → Option Value} {pv : β → List AV} (hpv : ∀ r, (ρ r).toList = stV K.1.2.2.2.1 (pv r)) {y : MethodName} {bytes : ByteArray} {maxL fr lo idx n ci N : Nat} {C : String} {T : u_T} (hc : vwCl[ci]? = some (C, T, N)) {rt : Option FieldType} {v : Option Nat} {vs : List AV} {o : Option (β × AH)} {f : β → AH → Option (α × AH)} (hs : Snd K.1 y bytes maxL rt fr lo ρ (vR v :: vs) h o) (hl : Cond.methodLink own idx y ∈ Tg) (hst : Cond.instanceMethod y ∈ Tg) (hse : Cond.selects C y y ∈ Tg) (hini : Cond.initialized C ∈ Tg) (hcd : Cond.code y bytes maxL rt ∈ Tg) (hyc : y.cls = C) (hd : dsc y.cls y.desc n) (hn : vs.length = n) (hR : fr + 1 ≤ K.2.2.2.1.1 ∧ 8 + (maxL + 11) + lo ≤ K.2.2.2.1.2.1) (hsum : (st.map ac).sum ≤ 8) (est : vs.reverse ++ vR v :: st = st0) (d : decode cc pc = .ok (.invokevirtual idx, 3)) (kk : ∀ r h1, Go K (pc + 3) ls (pv r ++ st) h1 (f r h1)) : Go K pc ls st0 h (bd (cv h v ci o) f) := by
  subst est
  cases v with
  | none => intro r h' ho; cases ho
  | some a =>
  refine call_go (ar := (Value.ref (K.1.2.2.2.1 + a) :: stV K.1.2.2.2.1 vs).toArray) hpv (fun r h' e => hs.1 r h' (by obtain ⟨_, _, _, e⟩ := cv_some e; exact e)) kk fun r1 h1 h' e hle ha H locs lsA hP hls => ?_
  obtain ⟨a', ea, hT, e⟩ := cv_some e
  cases ea
  have hC := hs.2 r1 h1 e
  refine va_runV (C := C) (b := K.1.2.2.2.1 + a) (As := stV K.1.2.2.2.1 vs) (rest := stV K.1.2.2.2.1 st) ⟨hK.1, hK.2.1, hK.2.2.1, hK.2.2.2.1, hK.hts⟩ hC (cwV n hK.hts (gT ?_) rfl rfl rfl ⟨hyc, hd⟩ hR) ⟨blindP _ _ _, recv hK hc hT hP, fun U hU hW => ⟨rfl, State.WarmedH.trans hK.2.2.2.2.1 hW, by rw [hU]; exact hP⟩⟩ rfl (by show (stV K.1.2.2.2.1 vs).length = n; unfold stV; rw [List.length_map]; exact hn) hls.1 ?_ (lv_room (st_room _ hsum)) d (room_call ha (hs.1 _ _ e) hle)
  · intro w hw
    simp only [wsV, List.cons_append, List.nil_append, List.mem_cons, List.not_mem_nil, or_false] at hw
    rcases hw with rfl | rfl | rfl | rfl | rfl <;> assumption
  · exact stk_rev _ _ _ _
theorem go_callI (hK : KOK K own cc ret) {y : MethodName} {bytes : ByteArray} {maxL fr lo idx n : Nat} {v : Option Nat} {vs : List AV} {o : Option (Unit × AH)} {f : Unit → AH → Option (α × AH)} (hs : Snd K.1 y bytes maxL none fr lo (fun _ => none) (vR v :: vs) h o) (hl : Cond.methodLink own idx y ∈ Tg) (hst : Cond.instanceMethod y ∈ Tg) (hini : Cond.initialized y.cls ∈ Tg) (hcd : Cond.code y bytes maxL none ∈ Tg) (hyn : y.name = "<init>") (hd : dsc y.cls y.desc n) (hn : vs.length = n) (hR : fr + 1 ≤ K.2.2.2.1.1 ∧ 8 + (maxL + 11) + lo ≤ K.2.2.2.1.2.1) (hsum : (st.map ac).sum ≤ 8) (est : vs.reverse ++ vR v :: st = st0) (d : decode cc pc = .ok (.invokespecial idx, 3)) (kk : ∀ r h1, Go K (pc + 3) ls st h1 (f r h1)) : Go K pc ls st0 h (bd (match v with | none => none | some _ => o) f) := by
  subst est
  cases v with
  | none => intro r h' ho; cases ho
  | some a =>
  refine call_go (ρ := fun _ => none) (pv := fun _ => []) (ar := (Value.ref (K.1.2.2.2.1 + a) :: stV K.1.2.2.2.1 vs).toArray) (fun _ => rfl) hs.1 kk fun r1 h1 h' e hle ha H locs lsA hP hls => ?_
  have hC := hs.2 r1 h1 e
  refine va_runI (b := K.1.2.2.2.1 + a) (As := stV K.1.2.2.2.1 vs) (rest := stV K.1.2.2.2.1 st) ⟨hK.1, hK.2.1, hK.2.2.1, hK.2.2.2.1, hK.hts⟩ hC (cwI n hK.hts (gT ?_) rfl rfl rfl (hK.hts _ hini) (hK.hts _ hl) (hK.hts _ hst) hyn hd hR) ⟨blindP _ _ _, fun U hU hW => ⟨rfl, State.WarmedH.trans hK.2.2.2.2.1 hW, by rw [hU]; exact hP⟩⟩ rfl (by show (stV K.1.2.2.2.1 vs).length = n; unfold stV; rw [List.length_map]; exact hn) hls.1 ?_ (lv_room (st_room _ hsum)) d (room_call ha (hs.1 _ _ e) hle)
  · intro w hw
    simp only [List.mem_cons, List.not_mem_nil, or_false] at hw
    rw [hw]; exact hcd
  · exact stk_rev _ _ _ _
/-- super.m(..) on an object of class ci -/
theorem go_callU (hK : KOK K own cc ret) {ρ : β → Option Value} {pv : β → List AV} (hpv : ∀ r, (ρ r).toList = stV K.1.2.2.2.1 (pv r)) {y : MethodName} {bytes : ByteArray} {maxL fr lo idx n : Nat} {fam : List Nat} (hfam : ∀ ci ∈ fam, ∃ C T N, vwCl[ci]? = some (C, T, N)) {rt : Option FieldType} {v : Option Nat} {vs : List AV} {o : Option (β × AH)} {f : β → AH → Option (α × AH)} (hs : Snd K.1 y bytes maxL rt fr lo ρ (vR v :: vs) h o) (hl : Cond.methodLink own idx y ∈ Tg) (hsm : Cond.sameMethod y.cls y.cls y.name y.desc ∈ Tg) (hsp : Cond.superclass own y.cls ∈ Tg) (hst : Cond.instanceMethod y ∈ Tg) (hini : Cond.initialized y.cls ∈ Tg) (hcd : Cond.code y bytes maxL rt ∈ Tg) (hd : y.name ≠ "<init>" ∧ (parseMethodDescriptor y.desc).map (fun d => d.parameters.length) = some n) (hn : vs.length = n) (hR : fr + 1 ≤ K.2.2.2.1.1 ∧ 8 + (maxL + 11) + lo ≤ K.2.2.2.1.2.1) (hsum : (st.map ac).sum ≤ 8) (est : vs.reverse ++ vR v :: st = st0) (d : decode cc pc = .ok (.invokespecial idx, 3)) (kk : ∀ r h1, Go K (pc + 3) ls (pv r ++ st) h1 (f r h1)) : Go K pc ls st0 h (bd (if fits1 h fam v = true ∧ v ≠ none then o else none) f) := by
  subst est
  cases v with
  | none => intro r h' ho; rw [if_neg (fun z => z.2 rfl)] at ho; cases ho
  | some a =>
  refine call_go (ar := (Value.ref (K.1.2.2.2.1 + a) :: stV K.1.2.2.2.1 vs).toArray) hpv (mono_if hs.1 mono_none) kk fun r1 h1 h' e hle ha H locs lsA hP hls => ?_
  by_cases hfit : fits1 h fam (some a) = true ∧ (some a : Option Nat) ≠ none
  · rw [if_pos hfit] at e
    obtain ⟨ci, hT, hci⟩ := fits1_some hfit.1
    obtain ⟨C, T, N, hc⟩ := hfam ci hci
    have hC := hs.2 r1 h1 e
    refine va_runSU (C := C) (hK.vk.1 ci _ hc).2 (b := K.1.2.2.2.1 + a) (As := stV K.1.2.2.2.1 vs) (rest := stV K.1.2.2.2.1 st) ⟨hK.1, hK.2.1, hK.2.2.1, hK.2.2.2.1, hK.hts⟩ hC (va_cwSU n hK.hts (gT ?_) rfl rfl rfl hd hR) ⟨blindP _ _ _, recv hK hc hT hP, fun U hU hW => ⟨rfl, State.WarmedH.trans hK.2.2.2.2.1 hW, by rw [hU]; exact hP⟩⟩ rfl (by show (stV K.1.2.2.2.1 vs).length = n; unfold stV; rw [List.length_map]; exact hn) hls.1 ?_ (lv_room (st_room _ hsum)) d (room_call ha (hs.1 _ _ e) hle)
    · intro w hw
      simp only [va_wsSU, List.cons_append, List.nil_append, List.mem_cons, List.not_mem_nil, or_false] at hw
      rcases hw with rfl | rfl | rfl | rfl | rfl | rfl <;> assumption
    · exact stk_rev _ _ _ _
  · rw [if_neg hfit] at e; cases e
/-- a call of x that the receiver's class selects -/
def Dyn (X : GX) (x : MethodName) (FR LO : Nat) (ρ : β → Option Value) (vs : List AV) (h : AH) (o : Option (β × AH)) : Prop := Mono h o ∧ ∀ (r : β) (h' : AH), o = some (r, h') → ∃ (a ci : Nat) (C : String) (T : u_T) (N : Nat) (y : MethodName) (bytes : ByteArray) (maxL fr lo : Nat) (rt : Option FieldType) (vs' : List AV), vs = vR (some a) :: vs' ∧ aT h a = some (.inr ci) ∧ vwCl[ci]? = some (C, T, N) ∧ (Cond.selects C x y ∈ Tg ∧ Cond.instanceMethod y ∈ Tg ∧ Cond.initialized y.cls ∈ Tg ∧ Cond.code y bytes maxL rt ∈ Tg) ∧ (fr + 1 ≤ FR ∧ 8 + (maxL + 11) + lo ≤ LO) ∧ Ct X y bytes maxL rt fr lo vs h (ρ r) h'
theorem go_callD (hK : KOK K own cc ret) {ρ : β → Option Value} {pv : β → List AV} (hpv : ∀ r, (ρ r).toList = stV K.1.2.2.2.1 (pv r)) {x : MethodName} {b0 : ByteArray} {m0 FR LO idx n : Nat} {r0 : Option FieldType} {v : Option Nat} {vs : List AV} {o : Option (β × AH)} {f : β → AH → Option (α × AH)} (hs : Dyn K.1 x FR LO ρ (vR v :: vs) h o) (hl : Cond.methodLink own idx x ∈ Tg) (hsm : Cond.sameMethod x.cls x.cls x.name x.desc ∈ Tg) (hst : Cond.instanceMethod x ∈ Tg) (hcd : Cond.code x b0 m0 r0 ∈ Tg) (hd : dsc x.cls x.desc n) (hn : vs.length = n) (hR : FR ≤ K.2.2.2.1.1 ∧ LO ≤ K.2.2.2.1.2.1) (hsum : (st.map ac).sum ≤ 8) (est : vs.reverse ++ vR v :: st = st0) (d : decode cc pc = .ok (.invokevirtual idx, 3)) (kk : ∀ r h1, Go K (pc + 3) ls (pv r ++ st) h1 (f r h1)) : Go K pc ls st0 h (bd o f) := by
  subst est
  refine call_go (ar := (av K.1.2.2.2.1 (vR v) :: stV K.1.2.2.2.1 vs).toArray) hpv hs.1 kk fun r1 h1 h' e hle ha H locs lsA hP hls => ?_
  obtain ⟨a, ci, C, T, N, y, bytes, maxL, fr, lo, rt, vs', evs, hT, hc, ⟨w1, w2, w3, w4⟩, hR2, hC⟩ := hs.2 r1 h1 e
  cases evs
  refine va_runU (C := C) (owner := x.cls) (b := K.1.2.2.2.1 + a) (As := stV K.1.2.2.2.1 vs) (rest := stV K.1.2.2.2.1 st) ⟨hK.1, hK.2.1, hK.2.2.1, hK.2.2.2.1, hK.hts⟩ hC (va_cwO (x := x) (b0 := b0) (m0 := m0) (r0 := r0) n hK.hts (gT ?_) rfl rfl rfl hcd hd ⟨Nat.le_trans hR2.1 hR.1, Nat.le_trans hR2.2 hR.2⟩) ⟨blindP _ _ _, recv hK hc hT hP, fun U hU hW => ⟨rfl, State.WarmedH.trans hK.2.2.2.2.1 hW, by rw [hU]; exact hP⟩⟩ rfl (by show (stV K.1.2.2.2.1 vs).length = n; unfold stV; rw [List.length_map]; exact hn) hls.1 ?_ (lv_room (st_room _ hsum)) d (room_call ha (hs.1 _ _ e) hle)
  · intro w hw
    simp only [va_wsO, List.cons_append, List.nil_append, List.mem_cons, List.not_mem_nil, or_false] at hw
    rcases hw with rfl | rfl | rfl | rfl | rfl | rfl | rfl <;> assumption
  · exact stk_rev _ _ _ _
/-- Object.<init> -/
theorem go_objInit (hK : KOK K own cc ret) {idx : Nat} {v : Option Nat} {f : Option (α × AH)} (hl : Cond.methodLink own idx Lib.objectInit ∈ Tg) (hi : Cond.instanceMethod Lib.objectInit ∈ Tg) (hcd : Cond.code Lib.objectInit ⟨#[0xb1]⟩ 1 none ∈ Tg) (hR : 1 ≤ K.2.2.2.1.1 ∧ 20 ≤ K.2.2.2.1.2.1) (hsum : (st.map ac).sum ≤ 8) (d : decode cc pc = .ok (.invokespecial idx, 3)) (k : Go K (pc + 3) ls st h f) : Go K pc ls (vR v :: st) h (if v = none then none else f) := by
  cases v with
  | none => rw [if_pos rfl]; intro r h' ho; cases ho
  | some a =>
    rw [if_neg (fun z => by cases z)]
    intro r h' ho
    obtain ⟨m1, m2⟩ := k r h' ho
    refine ⟨m1, fun ha H locs lsA hP hS hls => ?_⟩
    refine W.objInit hK.1 hK.2.1 hK.2.2.2.1 (hK.hts _ hl) (hK.hts _ hi) (hK.hts _ hcd) rfl (by rw [hK.2.2.1]; exact hls.1) rfl d hR.1 ?_ (m2 ha H locs lsA hP hS hls)
    have := lv_room (m := K.2.1.2.2.2.1) (pc := pc) (ls := lsA) (rest := stV K.1.2.2.2.1 (vR (some a) :: st)) (st_room K.1.2.2.2.1 hsum)
    exact Nat.le_trans (Nat.add_le_add_right this 12) hR.2
end CALLS
end
section
def rI : Int32 → Option Value := fun x => some (.int x)
def rJ : Int64 → Option Value := fun x => some (.long x)
def rU : Unit → Option Value := fun _ => none
def rO (B : Nat) : Option Nat → Option Value := fun o => some (rv B o)
section GCALLS
variable {α : Type} {P : PX α} {own mn : String} {cc : ByteArray} {ret : Option FieldType} {pc : Nat} {ls : List (Nat × AV)} {st st0 : List AV} {h : AH}
theorem mono_cv {β : Type} {h : AH} {v : Option Nat} {ci : Nat} {o : Option (β × AH)} (hm : Mono h o) : Mono h (cv h v ci o) := fun r h' e => by
  obtain ⟨_, _, _, e⟩ := cv_some e
  exact hm r h' e
theorem g_callSI {y : MethodName} {bytes : ByteArray} {maxL fr lo idx n : Nat} {rt : Option FieldType} {vs : List AV} {o : Option (Int32 × AH)} {f : Int32 → AH → Option (α × AH)} (hs : Snd P.1 y bytes maxL rt fr lo rI vs h o) (hl : Cond.methodLink own idx y ∈ Tg) (hst : Cond.static y ∈ Tg) (hini : Cond.initialized y.cls ∈ Tg) (hcd : Cond.code y bytes maxL rt ∈ Tg) (hd : dsc y.cls y.desc n) (hn : vs.length = n) (hR : fr + 1 ≤ P.2.2.1.1 ∧ 8 + (maxL + 11) + lo ≤ P.2.2.1.2.1) (hsum : (st.map ac).sum ≤ 8) (est : vs.reverse ++ st = st0) (d : decode cc pc = .ok (.invokestatic idx, 3)) (kk : ∀ r h1, Gp P own mn cc ret (pc + 3) ls (vI r :: st) h1 (f r h1)) : Gp P own mn cc ret pc ls st0 h (bd o f) :=
  ⟨mono_bd hs.1 (fun x y => (kk x y).1), fun M hK hm => go_callS (K := mkC P M) (ρ := rI) (pv := fun r => [vI r]) hK (fun _ => rfl) hs hl hst hini hcd hd hn hR hsum est d (fun r h1 => (kk r h1).at M hK hm)⟩
theorem g_callSJ {y : MethodName} {bytes : ByteArray} {maxL fr lo idx n : Nat} {rt : Option FieldType} {vs : List AV} {o : Option (Int64 × AH)} {f : Int64 → AH → Option (α × AH)} (hs : Snd P.1 y bytes maxL rt fr lo rJ vs h o) (hl : Cond.methodLink own idx y ∈ Tg) (hst : Cond.static y ∈ Tg) (hini : Cond.initialized y.cls ∈ Tg) (hcd : Cond.code y bytes maxL rt ∈ Tg) (hd : dsc y.cls y.desc n) (hn : vs.length = n) (hR : fr + 1 ≤ P.2.2.1.1 ∧ 8 + (maxL + 11) + lo ≤ P.2.2.1.2.1) (hsum : (st.map ac).sum ≤ 8) (est : vs.reverse ++ st = st0) (d : decode cc pc = .ok (.invokestatic idx, 3)) (kk : ∀ r h1, Gp P own mn cc ret (pc + 3) ls (vJ r :: st) h1 (f r h1)) : Gp P own mn cc ret pc ls st0 h (bd o f) :=
  ⟨mono_bd hs.1 (fun x y => (kk x y).1), fun M hK hm => go_callS (K := mkC P M) (ρ := rJ) (pv := fun r => [vJ r]) hK (fun _ => rfl) hs hl hst hini hcd hd hn hR hsum est d (fun r h1 => (kk r h1).at M hK hm)⟩
theorem g_callSU {y : MethodName} {bytes : ByteArray} {maxL fr lo idx n : Nat} {rt : Option FieldType} {vs : List AV} {o : Option (Unit × AH)} {f : Unit → AH → Option (α × AH)} (hs : Snd P.1 y bytes maxL rt fr lo rU vs h o) (hl : Cond.methodLink own idx y ∈ Tg) (hst : Cond.static y ∈ Tg) (hini : Cond.initialized y.cls ∈ Tg) (hcd : Cond.code y bytes maxL rt ∈ Tg) (hd : dsc y.cls y.desc n) (hn : vs.length = n) (hR : fr + 1 ≤ P.2.2.1.1 ∧ 8 + (maxL + 11) + lo ≤ P.2.2.1.2.1) (hsum : (st.map ac).sum ≤ 8) (est : vs.reverse ++ st = st0) (d : decode cc pc = .ok (.invokestatic idx, 3)) (kk : ∀ r h1, Gp P own mn cc ret (pc + 3) ls (st) h1 (f r h1)) : Gp P own mn cc ret pc ls st0 h (bd o f) :=
  ⟨mono_bd hs.1 (fun x y => (kk x y).1), fun M hK hm => go_callS (K := mkC P M) (ρ := rU) (pv := fun r => []) hK (fun _ => rfl) hs hl hst hini hcd hd hn hR hsum est d (fun r h1 => (kk r h1).at M hK hm)⟩
theorem g_callSR {y : MethodName} {bytes : ByteArray} {maxL fr lo idx n : Nat} {rt : Option FieldType} {vs : List AV} {o : Option (Option Nat × AH)} {f : (Option Nat) → AH → Option (α × AH)} (hs : Snd P.1 y bytes maxL rt fr lo (rO P.1.2.2.2.1) vs h o) (hl : Cond.methodLink own idx y ∈ Tg) (hst : Cond.static y ∈ Tg) (hini : Cond.initialized y.cls ∈ Tg) (hcd : Cond.code y bytes maxL rt ∈ Tg) (hd : dsc y.cls y.desc n) (hn : vs.length = n) (hR : fr + 1 ≤ P.2.2.1.1 ∧ 8 + (maxL + 11) + lo ≤ P.2.2.1.2.1) (hsum : (st.map ac).sum ≤ 8) (est : vs.reverse ++ st = st0) (d : decode cc pc = .ok (.invokestatic idx, 3)) (kk : ∀ r h1, Gp P own mn cc ret (pc + 3) ls (vR r :: st) h1 (f r h1)) : Gp P own mn cc ret pc ls st0 h (bd o f) :=
  ⟨mono_bd hs.1 (fun x y => (kk x y).1), fun M hK hm => go_callS (K := mkC P M) (ρ := (rO P.1.2.2.2.1)) (pv := fun r => [vR r]) hK (fun _ => rfl) hs hl hst hini hcd hd hn hR hsum est d (fun r h1 => (kk r h1).at M hK hm)⟩
theorem g_callSNI {y : MethodName} {host : String} {bytes : ByteArray} {maxL fr lo idx n : Nat} {rt : Option FieldType} {vs : List AV} {o : Option (Int32 × AH)} {f : Int32 → AH → Option (α × AH)} (hs : Snd P.1 y bytes maxL rt fr lo rI vs h o) (hl : Cond.methodLinkNest own idx y host ∈ lw_tbl) (hst : Cond.static y ∈ Tg) (hini : Cond.initialized y.cls ∈ Tg) (hcd : Cond.code y bytes maxL rt ∈ Tg) (hd : dsc y.cls y.desc n) (hn : vs.length = n) (hR : fr + 1 ≤ P.2.2.1.1 ∧ 8 + (maxL + 11) + lo ≤ P.2.2.1.2.1) (hsum : (st.map ac).sum ≤ 8) (est : vs.reverse ++ st = st0) (d : decode cc pc = .ok (.invokestatic idx, 3)) (kk : ∀ r h1, Gp P own mn cc ret (pc + 3) ls (vI r :: st) h1 (f r h1)) : Gp P own mn cc ret pc ls st0 h (bd o f) :=
  ⟨mono_bd hs.1 (fun x y => (kk x y).1), fun M hK hm => go_callSN (K := mkC P M) (ρ := rI) (pv := fun r => [vI r]) hK (fun _ => rfl) hs hl hst hini hcd hd hn hR hsum est d (fun r h1 => (kk r h1).at M hK hm)⟩
theorem g_callSNJ {y : MethodName} {host : String} {bytes : ByteArray} {maxL fr lo idx n : Nat} {rt : Option FieldType} {vs : List AV} {o : Option (Int64 × AH)} {f : Int64 → AH → Option (α × AH)} (hs : Snd P.1 y bytes maxL rt fr lo rJ vs h o) (hl : Cond.methodLinkNest own idx y host ∈ lw_tbl) (hst : Cond.static y ∈ Tg) (hini : Cond.initialized y.cls ∈ Tg) (hcd : Cond.code y bytes maxL rt ∈ Tg) (hd : dsc y.cls y.desc n) (hn : vs.length = n) (hR : fr + 1 ≤ P.2.2.1.1 ∧ 8 + (maxL + 11) + lo ≤ P.2.2.1.2.1) (hsum : (st.map ac).sum ≤ 8) (est : vs.reverse ++ st = st0) (d : decode cc pc = .ok (.invokestatic idx, 3)) (kk : ∀ r h1, Gp P own mn cc ret (pc + 3) ls (vJ r :: st) h1 (f r h1)) : Gp P own mn cc ret pc ls st0 h (bd o f) :=
  ⟨mono_bd hs.1 (fun x y => (kk x y).1), fun M hK hm => go_callSN (K := mkC P M) (ρ := rJ) (pv := fun r => [vJ r]) hK (fun _ => rfl) hs hl hst hini hcd hd hn hR hsum est d (fun r h1 => (kk r h1).at M hK hm)⟩
theorem g_callSNU {y : MethodName} {host : String} {bytes : ByteArray} {maxL fr lo idx n : Nat} {rt : Option FieldType} {vs : List AV} {o : Option (Unit × AH)} {f : Unit → AH → Option (α × AH)} (hs : Snd P.1 y bytes maxL rt fr lo rU vs h o) (hl : Cond.methodLinkNest own idx y host ∈ lw_tbl) (hst : Cond.static y ∈ Tg) (hini : Cond.initialized y.cls ∈ Tg) (hcd : Cond.code y bytes maxL rt ∈ Tg) (hd : dsc y.cls y.desc n) (hn : vs.length = n) (hR : fr + 1 ≤ P.2.2.1.1 ∧ 8 + (maxL + 11) + lo ≤ P.2.2.1.2.1) (hsum : (st.map ac).sum ≤ 8) (est : vs.reverse ++ st = st0) (d : decode cc pc = .ok (.invokestatic idx, 3)) (kk : ∀ r h1, Gp P own mn cc ret (pc + 3) ls (st) h1 (f r h1)) : Gp P own mn cc ret pc ls st0 h (bd o f) :=
  ⟨mono_bd hs.1 (fun x y => (kk x y).1), fun M hK hm => go_callSN (K := mkC P M) (ρ := rU) (pv := fun r => []) hK (fun _ => rfl) hs hl hst hini hcd hd hn hR hsum est d (fun r h1 => (kk r h1).at M hK hm)⟩
theorem g_callSNR {y : MethodName} {host : String} {bytes : ByteArray} {maxL fr lo idx n : Nat} {rt : Option FieldType} {vs : List AV} {o : Option (Option Nat × AH)} {f : (Option Nat) → AH → Option (α × AH)} (hs : Snd P.1 y bytes maxL rt fr lo (rO P.1.2.2.2.1) vs h o) (hl : Cond.methodLinkNest own idx y host ∈ lw_tbl) (hst : Cond.static y ∈ Tg) (hini : Cond.initialized y.cls ∈ Tg) (hcd : Cond.code y bytes maxL rt ∈ Tg) (hd : dsc y.cls y.desc n) (hn : vs.length = n) (hR : fr + 1 ≤ P.2.2.1.1 ∧ 8 + (maxL + 11) + lo ≤ P.2.2.1.2.1) (hsum : (st.map ac).sum ≤ 8) (est : vs.reverse ++ st = st0) (d : decode cc pc = .ok (.invokestatic idx, 3)) (kk : ∀ r h1, Gp P own mn cc ret (pc + 3) ls (vR r :: st) h1 (f r h1)) : Gp P own mn cc ret pc ls st0 h (bd o f) :=
  ⟨mono_bd hs.1 (fun x y => (kk x y).1), fun M hK hm => go_callSN (K := mkC P M) (ρ := (rO P.1.2.2.2.1)) (pv := fun r => [vR r]) hK (fun _ => rfl) hs hl hst hini hcd hd hn hR hsum est d (fun r h1 => (kk r h1).at M hK hm)⟩
theorem g_callVI {y : MethodName} {bytes : ByteArray} {maxL fr lo idx n ci N : Nat} {C : String} {T : u_T} (hc : vwCl[ci]? = some (C, T, N)) {rt : Option FieldType} {v : Option Nat} {vs : List AV} {o : Option (Int32 × AH)} {f : Int32 → AH → Option (α × AH)} (hs : Snd P.1 y bytes maxL rt fr lo rI (vR v :: vs) h o) (hl : Cond.methodLink own idx y ∈ Tg) (hst : Cond.instanceMethod y ∈ Tg) (hse : Cond.selects C y y ∈ Tg) (hini : Cond.initialized C ∈ Tg) (hcd : Cond.code y bytes maxL rt ∈ Tg) (hyc : y.cls = C) (hd : dsc y.cls y.desc n) (hn : vs.length = n) (hR : fr + 1 ≤ P.2.2.1.1 ∧ 8 + (maxL + 11) + lo ≤ P.2.2.1.2.1) (hsum : (st.map ac).sum ≤ 8) (est : vs.reverse ++ vR v :: st = st0) (d : decode cc pc = .ok (.invokevirtual idx, 3)) (kk : ∀ r h1, Gp P own mn cc ret (pc + 3) ls (vI r :: st) h1 (f r h1)) : Gp P own mn cc ret pc ls st0 h (bd (cv h v ci o) f) :=
  ⟨mono_bd (mono_cv hs.1) (fun x y => (kk x y).1), fun M hK hm => go_callV (K := mkC P M) (ρ := rI) (pv := fun r => [vI r]) hK (fun _ => rfl) hc hs hl hst hse hini hcd hyc hd hn hR hsum est d (fun r h1 => (kk r h1).at M hK hm)⟩
theorem g_callVJ {y : MethodName} {bytes : ByteArray} {maxL fr lo idx n ci N : Nat} {C : String} {T : u_T} (hc : vwCl[ci]? = some (C, T, N)) {rt : Option FieldType} {v : Option Nat} {vs : List AV} {o : Option (Int64 × AH)} {f : Int64 → AH → Option (α × AH)} (hs : Snd P.1 y bytes maxL rt fr lo rJ (vR v :: vs) h o) (hl : Cond.methodLink own idx y ∈ Tg) (hst : Cond.instanceMethod y ∈ Tg) (hse : Cond.selects C y y ∈ Tg) (hini : Cond.initialized C ∈ Tg) (hcd : Cond.code y bytes maxL rt ∈ Tg) (hyc : y.cls = C) (hd : dsc y.cls y.desc n) (hn : vs.length = n) (hR : fr + 1 ≤ P.2.2.1.1 ∧ 8 + (maxL + 11) + lo ≤ P.2.2.1.2.1) (hsum : (st.map ac).sum ≤ 8) (est : vs.reverse ++ vR v :: st = st0) (d : decode cc pc = .ok (.invokevirtual idx, 3)) (kk : ∀ r h1, Gp P own mn cc ret (pc + 3) ls (vJ r :: st) h1 (f r h1)) : Gp P own mn cc ret pc ls st0 h (bd (cv h v ci o) f) :=
  ⟨mono_bd (mono_cv hs.1) (fun x y => (kk x y).1), fun M hK hm => go_callV (K := mkC P M) (ρ := rJ) (pv := fun r => [vJ r]) hK (fun _ => rfl) hc hs hl hst hse hini hcd hyc hd hn hR hsum est d (fun r h1 => (kk r h1).at M hK hm)⟩
theorem g_callVU {y : MethodName} {bytes : ByteArray} {maxL fr lo idx n ci N : Nat} {C : String} {T : u_T} (hc : vwCl[ci]? = some (C, T, N)) {rt : Option FieldType} {v : Option Nat} {vs : List AV} {o : Option (Unit × AH)} {f : Unit → AH → Option (α × AH)} (hs : Snd P.1 y bytes maxL rt fr lo rU (vR v :: vs) h o) (hl : Cond.methodLink own idx y ∈ Tg) (hst : Cond.instanceMethod y ∈ Tg) (hse : Cond.selects C y y ∈ Tg) (hini : Cond.initialized C ∈ Tg) (hcd : Cond.code y bytes maxL rt ∈ Tg) (hyc : y.cls = C) (hd : dsc y.cls y.desc n) (hn : vs.length = n) (hR : fr + 1 ≤ P.2.2.1.1 ∧ 8 + (maxL + 11) + lo ≤ P.2.2.1.2.1) (hsum : (st.map ac).sum ≤ 8) (est : vs.reverse ++ vR v :: st = st0) (d : decode cc pc = .ok (.invokevirtual idx, 3)) (kk : ∀ r h1, Gp P own mn cc ret (pc + 3) ls (st) h1 (f r h1)) : Gp P own mn cc ret pc ls st0 h (bd (cv h v ci o) f) :=
  ⟨mono_bd (mono_cv hs.1) (fun x y => (kk x y).1), fun M hK hm => go_callV (K := mkC P M) (ρ := rU) (pv := fun r => []) hK (fun _ => rfl) hc hs hl hst hse hini hcd hyc hd hn hR hsum est d (fun r h1 => (kk r h1).at M hK hm)⟩
theorem g_callVR {y : MethodName} {bytes : ByteArray} {maxL fr lo idx n ci N : Nat} {C : String} {T : u_T} (hc : vwCl[ci]? = some (C, T, N)) {rt : Option FieldType} {v : Option Nat} {vs : List AV} {o : Option (Option Nat × AH)} {f : (Option Nat) → AH → Option (α × AH)} (hs : Snd P.1 y bytes maxL rt fr lo (rO P.1.2.2.2.1) (vR v :: vs) h o) (hl : Cond.methodLink own idx y ∈ Tg) (hst : Cond.instanceMethod y ∈ Tg) (hse : Cond.selects C y y ∈ Tg) (hini : Cond.initialized C ∈ Tg) (hcd : Cond.code y bytes maxL rt ∈ Tg) (hyc : y.cls = C) (hd : dsc y.cls y.desc n) (hn : vs.length = n) (hR : fr + 1 ≤ P.2.2.1.1 ∧ 8 + (maxL + 11) + lo ≤ P.2.2.1.2.1) (hsum : (st.map ac).sum ≤ 8) (est : vs.reverse ++ vR v :: st = st0) (d : decode cc pc = .ok (.invokevirtual idx, 3)) (kk : ∀ r h1, Gp P own mn cc ret (pc + 3) ls (vR r :: st) h1 (f r h1)) : Gp P own mn cc ret pc ls st0 h (bd (cv h v ci o) f) :=
  ⟨mono_bd (mono_cv hs.1) (fun x y => (kk x y).1), fun M hK hm => go_callV (K := mkC P M) (ρ := (rO P.1.2.2.2.1)) (pv := fun r => [vR r]) hK (fun _ => rfl) hc hs hl hst hse hini hcd hyc hd hn hR hsum est d (fun r h1 => (kk r h1).at M hK hm)⟩
theorem g_callUI {y : MethodName} {bytes : ByteArray} {maxL fr lo idx n : Nat} {fam : List Nat} (hfam : ∀ ci ∈ fam, ∃ C T N, vwCl[ci]? = some (C, T, N)) {rt : Option FieldType} {v : Option Nat} {vs : List AV} {o : Option (Int32 × AH)} {f : Int32 → AH → Option (α × AH)} (hs : Snd P.1 y bytes maxL rt fr lo rI (vR v :: vs) h o) (hl : Cond.methodLink own idx y ∈ Tg) (hsm : Cond.sameMethod y.cls y.cls y.name y.desc ∈ Tg) (hsp : Cond.superclass own y.cls ∈ Tg) (hst : Cond.instanceMethod y ∈ Tg) (hini : Cond.initialized y.cls ∈ Tg) (hcd : Cond.code y bytes maxL rt ∈ Tg) (hd : y.name ≠ "<init>" ∧ (parseMethodDescriptor y.desc).map (fun d => d.parameters.length) = some n) (hn : vs.length = n) (hR : fr + 1 ≤ P.2.2.1.1 ∧ 8 + (maxL + 11) + lo ≤ P.2.2.1.2.1) (hsum : (st.map ac).sum ≤ 8) (est : vs.reverse ++ vR v :: st = st0) (d : decode cc pc = .ok (.invokespecial idx, 3)) (kk : ∀ r h1, Gp P own mn cc ret (pc + 3) ls (vI r :: st) h1 (f r h1)) : Gp P own mn cc ret pc ls st0 h (bd (if fits1 h fam v = true ∧ v ≠ none then o else none) f) :=
  ⟨mono_bd (mono_if hs.1 mono_none) (fun x y => (kk x y).1), fun M hK hm => go_callU (K := mkC P M) (ρ := rI) (pv := fun r => [vI r]) hK (fun _ => rfl) hfam hs hl hsm hsp hst hini hcd hd hn hR hsum est d (fun r h1 => (kk r h1).at M hK hm)⟩
theorem g_callUJ {y : MethodName} {bytes : ByteArray} {maxL fr lo idx n : Nat} {fam : List Nat} (hfam : ∀ ci ∈ fam, ∃ C T N, vwCl[ci]? = some (C, T, N)) {rt : Option FieldType} {v : Option Nat} {vs : List AV} {o : Option (Int64 × AH)} {f : Int64 → AH → Option (α × AH)} (hs : Snd P.1 y bytes maxL rt fr lo rJ (vR v :: vs) h o) (hl : Cond.methodLink own idx y ∈ Tg) (hsm : Cond.sameMethod y.cls y.cls y.name y.desc ∈ Tg) (hsp : Cond.superclass own y.cls ∈ Tg) (hst : Cond.instanceMethod y ∈ Tg) (hini : Cond.initialized y.cls ∈ Tg) (hcd : Cond.code y bytes maxL rt ∈ Tg) (hd : y.name ≠ "<init>" ∧ (parseMethodDescriptor y.desc).map (fun d => d.parameters.length) = some n) (hn : vs.length = n) (hR : fr + 1 ≤ P.2.2.1.1 ∧ 8 + (maxL + 11) + lo ≤ P.2.2.1.2.1) (hsum : (st.map ac).sum ≤ 8) (est : vs.reverse ++ vR v :: st = st0) (d : decode cc pc = .ok (.invokespecial idx, 3)) (kk : ∀ r h1, Gp P own mn cc ret (pc + 3) ls (vJ r :: st) h1 (f r h1)) : Gp P own mn cc ret pc ls st0 h (bd (if fits1 h fam v = true ∧ v ≠ none then o else none) f) :=
  ⟨mono_bd (mono_if hs.1 mono_none) (fun x y => (kk x y).1), fun M hK hm => go_callU (K := mkC P M) (ρ := rJ) (pv := fun r => [vJ r]) hK (fun _ => rfl) hfam hs hl hsm hsp hst hini hcd hd hn hR hsum est d (fun r h1 => (kk r h1).at M hK hm)⟩
theorem g_callUU {y : MethodName} {bytes : ByteArray} {maxL fr lo idx n : Nat} {fam : List Nat} (hfam : ∀ ci ∈ fam, ∃ C T N, vwCl[ci]? = some (C, T, N)) {rt : Option FieldType} {v : Option Nat} {vs : List AV} {o : Option (Unit × AH)} {f : Unit → AH → Option (α × AH)} (hs : Snd P.1 y bytes maxL rt fr lo rU (vR v :: vs) h o) (hl : Cond.methodLink own idx y ∈ Tg) (hsm : Cond.sameMethod y.cls y.cls y.name y.desc ∈ Tg) (hsp : Cond.superclass own y.cls ∈ Tg) (hst : Cond.instanceMethod y ∈ Tg) (hini : Cond.initialized y.cls ∈ Tg) (hcd : Cond.code y bytes maxL rt ∈ Tg) (hd : y.name ≠ "<init>" ∧ (parseMethodDescriptor y.desc).map (fun d => d.parameters.length) = some n) (hn : vs.length = n) (hR : fr + 1 ≤ P.2.2.1.1 ∧ 8 + (maxL + 11) + lo ≤ P.2.2.1.2.1) (hsum : (st.map ac).sum ≤ 8) (est : vs.reverse ++ vR v :: st = st0) (d : decode cc pc = .ok (.invokespecial idx, 3)) (kk : ∀ r h1, Gp P own mn cc ret (pc + 3) ls (st) h1 (f r h1)) : Gp P own mn cc ret pc ls st0 h (bd (if fits1 h fam v = true ∧ v ≠ none then o else none) f) :=
  ⟨mono_bd (mono_if hs.1 mono_none) (fun x y => (kk x y).1), fun M hK hm => go_callU (K := mkC P M) (ρ := rU) (pv := fun r => []) hK (fun _ => rfl) hfam hs hl hsm hsp hst hini hcd hd hn hR hsum est d (fun r h1 => (kk r h1).at M hK hm)⟩
theorem g_callUR {y : MethodName} {bytes : ByteArray} {maxL fr lo idx n : Nat} {fam : List Nat} (hfam : ∀ ci ∈ fam, ∃ C T N, vwCl[ci]? = some (C, T, N)) {rt : Option FieldType} {v : Option Nat} {vs : List AV} {o : Option (Option Nat × AH)} {f : (Option Nat) → AH → Option (α × AH)} (hs : Snd P.1 y bytes maxL rt fr lo (rO P.1.2.2.2.1) (vR v :: vs) h o) (hl : Cond.methodLink own idx y ∈ Tg) (hsm : Cond.sameMethod y.cls y.cls y.name y.desc ∈ Tg) (hsp : Cond.superclass own y.cls ∈ Tg) (hst : Cond.instanceMethod y ∈ Tg) (hini : Cond.initialized y.cls ∈ Tg) (hcd : Cond.code y bytes maxL rt ∈ Tg) (hd : y.name ≠ "<init>" ∧ (parseMethodDescriptor y.desc).map (fun d => d.parameters.length) = some n) (hn : vs.length = n) (hR : fr + 1 ≤ P.2.2.1.1 ∧ 8 + (maxL + 11) + lo ≤ P.2.2.1.2.1) (hsum : (st.map ac).sum ≤ 8) (est : vs.reverse ++ vR v :: st = st0) (d : decode cc pc = .ok (.invokespecial idx, 3)) (kk : ∀ r h1, Gp P own mn cc ret (pc + 3) ls (vR r :: st) h1 (f r h1)) : Gp P own mn cc ret pc ls st0 h (bd (if fits1 h fam v = true ∧ v ≠ none then o else none) f) :=
  ⟨mono_bd (mono_if hs.1 mono_none) (fun x y => (kk x y).1), fun M hK hm => go_callU (K := mkC P M) (ρ := (rO P.1.2.2.2.1)) (pv := fun r => [vR r]) hK (fun _ => rfl) hfam hs hl hsm hsp hst hini hcd hd hn hR hsum est d (fun r h1 => (kk r h1).at M hK hm)⟩
theorem g_callDI {x : MethodName} {b0 : ByteArray} {m0 FR LO idx n : Nat} {r0 : Option FieldType} {v : Option Nat} {vs : List AV} {o : Option (Int32 × AH)} {f : Int32 → AH → Option (α × AH)} (hs : Dyn P.1 x FR LO rI (vR v :: vs) h o) (hl : Cond.methodLink own idx x ∈ Tg) (hsm : Cond.sameMethod x.cls x.cls x.name x.desc ∈ Tg) (hst : Cond.instanceMethod x ∈ Tg) (hcd : Cond.code x b0 m0 r0 ∈ Tg) (hd : dsc x.cls x.desc n) (hn : vs.length = n) (hR : FR ≤ P.2.2.1.1 ∧ LO ≤ P.2.2.1.2.1) (hsum : (st.map ac).sum ≤ 8) (est : vs.reverse ++ vR v :: st = st0) (d : decode cc pc = .ok (.invokevirtual idx, 3)) (kk : ∀ r h1, Gp P own mn cc ret (pc + 3) ls (vI r :: st) h1 (f r h1)) : Gp P own mn cc ret pc ls st0 h (bd o f) :=
  ⟨mono_bd hs.1 (fun x y => (kk x y).1), fun M hK hm => go_callD (K := mkC P M) (ρ := rI) (pv := fun r => [vI r]) hK (fun _ => rfl) hs hl hsm hst hcd hd hn hR hsum est d (fun r h1 => (kk r h1).at M hK hm)⟩
theorem g_callDJ {x : MethodName} {b0 : ByteArray} {m0 FR LO idx n : Nat} {r0 : Option FieldType} {v : Option Nat} {vs : List AV} {o : Option (Int64 × AH)} {f : Int64 → AH → Option (α × AH)} (hs : Dyn P.1 x FR LO rJ (vR v :: vs) h o) (hl : Cond.methodLink own idx x ∈ Tg) (hsm : Cond.sameMethod x.cls x.cls x.name x.desc ∈ Tg) (hst : Cond.instanceMethod x ∈ Tg) (hcd : Cond.code x b0 m0 r0 ∈ Tg) (hd : dsc x.cls x.desc n) (hn : vs.length = n) (hR : FR ≤ P.2.2.1.1 ∧ LO ≤ P.2.2.1.2.1) (hsum : (st.map ac).sum ≤ 8) (est : vs.reverse ++ vR v :: st = st0) (d : decode cc pc = .ok (.invokevirtual idx, 3)) (kk : ∀ r h1, Gp P own mn cc ret (pc + 3) ls (vJ r :: st) h1 (f r h1)) : Gp P own mn cc ret pc ls st0 h (bd o f) :=
  ⟨mono_bd hs.1 (fun x y => (kk x y).1), fun M hK hm => go_callD (K := mkC P M) (ρ := rJ) (pv := fun r => [vJ r]) hK (fun _ => rfl) hs hl hsm hst hcd hd hn hR hsum est d (fun r h1 => (kk r h1).at M hK hm)⟩
theorem g_callDU {x : MethodName} {b0 : ByteArray} {m0 FR LO idx n : Nat} {r0 : Option FieldType} {v : Option Nat} {vs : List AV} {o : Option (Unit × AH)} {f : Unit → AH → Option (α × AH)} (hs : Dyn P.1 x FR LO rU (vR v :: vs) h o) (hl : Cond.methodLink own idx x ∈ Tg) (hsm : Cond.sameMethod x.cls x.cls x.name x.desc ∈ Tg) (hst : Cond.instanceMethod x ∈ Tg) (hcd : Cond.code x b0 m0 r0 ∈ Tg) (hd : dsc x.cls x.desc n) (hn : vs.length = n) (hR : FR ≤ P.2.2.1.1 ∧ LO ≤ P.2.2.1.2.1) (hsum : (st.map ac).sum ≤ 8) (est : vs.reverse ++ vR v :: st = st0) (d : decode cc pc = .ok (.invokevirtual idx, 3)) (kk : ∀ r h1, Gp P own mn cc ret (pc + 3) ls (st) h1 (f r h1)) : Gp P own mn cc ret pc ls st0 h (bd o f) :=
  ⟨mono_bd hs.1 (fun x y => (kk x y).1), fun M hK hm => go_callD (K := mkC P M) (ρ := rU) (pv := fun r => []) hK (fun _ => rfl) hs hl hsm hst hcd hd hn hR hsum est d (fun r h1 => (kk r h1).at M hK hm)⟩
theorem g_callDR {x : MethodName} {b0 : ByteArray} {m0 FR LO idx n : Nat} {r0 : Option FieldType} {v : Option Nat} {vs : List AV} {o : Option (Option Nat × AH)} {f : (Option Nat) → AH → Option (α × AH)} (hs : Dyn P.1 x FR LO (rO P.1.2.2.2.1) (vR v :: vs) h o) (hl : Cond.methodLink own idx x ∈ Tg) (hsm : Cond.sameMethod x.cls x.cls x.name x.desc ∈ Tg) (hst : Cond.instanceMethod x ∈ Tg) (hcd : Cond.code x b0 m0 r0 ∈ Tg) (hd : dsc x.cls x.desc n) (hn : vs.length = n) (hR : FR ≤ P.2.2.1.1 ∧ LO ≤ P.2.2.1.2.1) (hsum : (st.map ac).sum ≤ 8) (est : vs.reverse ++ vR v :: st = st0) (d : decode cc pc = .ok (.invokevirtual idx, 3)) (kk : ∀ r h1, Gp P own mn cc ret (pc + 3) ls (vR r :: st) h1 (f r h1)) : Gp P own mn cc ret pc ls st0 h (bd o f) :=
  ⟨mono_bd hs.1 (fun x y => (kk x y).1), fun M hK hm => go_callD (K := mkC P M) (ρ := (rO P.1.2.2.2.1)) (pv := fun r => [vR r]) hK (fun _ => rfl) hs hl hsm hst hcd hd hn hR hsum est d (fun r h1 => (kk r h1).at M hK hm)⟩
theorem g_callI {y : MethodName} {bytes : ByteArray} {maxL fr lo idx n : Nat} {v : Option Nat} {vs : List AV} {o : Option (Unit × AH)} {f : Unit → AH → Option (α × AH)} (hs : Snd P.1 y bytes maxL none fr lo (fun _ => none) (vR v :: vs) h o) (hl : Cond.methodLink own idx y ∈ Tg) (hst : Cond.instanceMethod y ∈ Tg) (hini : Cond.initialized y.cls ∈ Tg) (hcd : Cond.code y bytes maxL none ∈ Tg) (hyn : y.name = "<init>") (hd : dsc y.cls y.desc n) (hn : vs.length = n) (hR : fr + 1 ≤ P.2.2.1.1 ∧ 8 + (maxL + 11) + lo ≤ P.2.2.1.2.1) (hsum : (st.map ac).sum ≤ 8) (est : vs.reverse ++ vR v :: st = st0) (d : decode cc pc = .ok (.invokespecial idx, 3)) (kk : ∀ r h1, Gp P own mn cc ret (pc + 3) ls st h1 (f r h1)) : Gp P own mn cc ret pc ls st0 h (bd (match v with | none => none | some _ => o) f) :=
  ⟨mono_bd (by cases v with
    | none => exact mono_none
    | some _ => exact hs.1) (fun x y => (kk x y).1), fun M hK hm => go_callI (K := mkC P M) hK hs hl hst hini hcd hyn hd hn hR hsum est d (fun r h1 => (kk r h1).at M hK hm)⟩
theorem g_objInit {idx : Nat} {v : Option Nat} {f : Option (α × AH)} (hl : Cond.methodLink own idx Lib.objectInit ∈ Tg) (hi : Cond.instanceMethod Lib.objectInit ∈ Tg) (hcd : Cond.code Lib.objectInit ⟨#[0xb1]⟩ 1 none ∈ Tg) (hR : 1 ≤ P.2.2.1.1 ∧ 20 ≤ P.2.2.1.2.1) (hsum : (st.map ac).sum ≤ 8) (d : decode cc pc = .ok (.invokespecial idx, 3)) (k : Gp P own mn cc ret (pc + 3) ls st h f) : Gp P own mn cc ret pc ls (vR v :: st) h (if v = none then none else f) :=
  ⟨mono_if mono_none k.1, fun M hK hm => go_objInit (K := mkC P M) hK hl hi hcd hR hsum d (k.at M hK hm)⟩
end GCALLS
end
section
section MORE
variable {α : Type} {P : PX α} {own mn : String} {cc : ByteArray} {ret : Option FieldType} {pc : Nat} {ls : List (Nat × AV)} {st st0 : List AV} {h : AH} {o : Option (α × AH)}
theorem g_none {pc : Nat} {ls : List (Nat × AV)} {st : List AV} : Gp P own mn cc ret pc ls st h none := ⟨mono_none, fun _ _ _ _ _ e => by cases e⟩
theorem g_sub2 {ls' : List (Nat × AV)} (ps : List Nat) (e : ps.filterMap (fun k => ls[k]?) = ls') (k : Gp P own mn cc ret pc ls' st h o) : Gp P own mn cc ret pc ls st h o := ⟨k.1, fun M hK hm => go_sub ps e (k.2 M hK hm)⟩
def neK (x : Int32) (ks : List Int) : Prop := ∀ k ∈ ks, ¬ x.toInt = k
theorem neK_nil {x : Int32} : neK x [] := fun _ hk => by cases hk
theorem neK_cons {x c : Int32} {k : Int} {ks : List Int} (hn : ¬ x = c) (e : c.toInt = k) (r : neK x ks) : neK x (k :: ks) := by
  intro j hj
  rcases List.mem_cons.mp hj with rfl | hj
  · exact lv_neT hn e
  · exact r j hj
theorem g_tsDef {dflt lo hi : Int} {offs : Array Int} {len tgt : Nat} {x : Int32} {keys : List Int} (hne : neK x keys) (hall : (List.range ((hi - lo).toNat + 1)).all (fun j => decide (offs[j]? = some dflt) || keys.contains (lo + (j : Int))) = true) (d : decode cc pc = .ok (.tableswitch dflt lo hi offs, len)) (t : (pc : Int) + dflt = (tgt : Int)) (k : Gp P own mn cc ret tgt ls st h o) : Gp P own mn cc ret pc ls (vI x :: st) h o := by
  refine ⟨k.1, fun M hK hm => ?_⟩
  by_cases h1 : x.toInt < lo
  · exact go_tsOut hK d (Or.inl h1) t (k.at M hK hm)
  · by_cases h2 : hi < x.toInt
    · exact go_tsOut hK d (Or.inr h2) t (k.at M hK hm)
    · have hj : (x.toInt - lo).toNat < (hi - lo).toNat + 1 := by omega
      have h3 := List.all_eq_true.mp hall _ (List.mem_range.mpr hj)
      rw [Bool.or_eq_true] at h3
      rcases h3 with h3 | h3
      · exact go_step (k.at M hK hm) (fun _ _ _ _ _ _ _ _ w => lv_tableIn hK.1 hK.2.1 d h1 h2 (of_decide_eq_true h3) t w)
      · have h4 : lo + ((x.toInt - lo).toNat : Int) ∈ keys := List.contains_iff_mem.mp h3
        exact absurd (by omega) (hne _ h4)
/-- a constructor's call on a cell that is one -/
def nn {γ : Type} (v : Option Nat) (o : Option γ) : Option γ := match v with
  | none => none
  | some _ => o
/-- super.m on an object of the family -/
def cu {γ : Type} (h : AH) (fam : List Nat) (v : Option Nat) (o : Option γ) : Option γ := if fits1 h fam v = true ∧ v ≠ none then o else none
theorem g_callI2 {y : MethodName} {bytes : ByteArray} {maxL fr lo idx n : Nat} {v : Option Nat} {vs : List AV} {o : Option (Unit × AH)} {f : Unit → AH → Option (α × AH)} (hs : Snd P.1 y bytes maxL none fr lo rU (vR v :: vs) h o) (hl : Cond.methodLink own idx y ∈ Tg) (hst : Cond.instanceMethod y ∈ Tg) (hini : Cond.initialized y.cls ∈ Tg) (hcd : Cond.code y bytes maxL none ∈ Tg) (hyn : y.name = "<init>") (hd : dsc y.cls y.desc n) (hn : vs.length = n) (hR : fr + 1 ≤ P.2.2.1.1 ∧ 8 + (maxL + 11) + lo ≤ P.2.2.1.2.1) (hsum : (st.map ac).sum ≤ 8) (est : vs.reverse ++ vR v :: st = st0) (d : decode cc pc = .ok (.invokespecial idx, 3)) (kk : ∀ r h1, Gp P own mn cc ret (pc + 3) ls st h1 (f r h1)) : Gp P own mn cc ret pc ls st0 h (bd (nn v o) f) := by
  have := g_callI hs hl hst hini hcd hyn hd hn hR hsum est d kk
  cases v <;> exact this
theorem nrv {B : Nat} {v : Option Nat} {t : FieldType} : narrow (.array t) (rv B v) = rv B v ∧ fits (.array t) (rv B v) = true := by cases v <;> exact ⟨rfl, rfl⟩
theorem nro {B : Nat} {v : Option Nat} {c : String} : narrow (.object c) (rv B v) = rv B v ∧ fits (.object c) (rv B v) = true := by cases v <;> exact ⟨rfl, rfl⟩
theorem nI' {v : Int32} : narrow .int (.int v) = .int v ∧ fits .int (.int v) = true := ⟨rfl, rfl⟩
theorem nZ0 : narrow .boolean (.int 0) = .int 0 ∧ fits .boolean (.int 0) = true := by decide +kernel
theorem nZ1 : narrow .boolean (.int 1) = .int 1 ∧ fits .boolean (.int 1) = true := by decide +kernel
/-- enough turns for any loop -/
def FU : Nat := 1048576
/-- the classes of guests -/
abbrev GF : List Nat := [0, 1, 2, 3, 4, 6, 8, 9]
end MORE
end
