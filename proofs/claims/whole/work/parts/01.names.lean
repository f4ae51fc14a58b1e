-- ===== PART A: goes FIRST, ahead of the names: the tables' words, and 'selects' of the private methods out of them =====
/-- a private method of a class that the tables say can be made, by its rows of tables_1 -/
def lw_okq (q : MethodName × Nat) : Prop := (q.1.cls ≠ "java/lang/invoke/MethodHandle" ∧ q.1.cls ≠ "java/lang/invoke/VarHandle") ∧ Cond.instantiable q.1.cls q.2 ∈ tables_1 ∧ Cond.privateMethod q.1 ∈ tables_1 ∧ Cond.instanceMethod q.1 ∈ tables_1
theorem lw_p0 : lw_okq (⟨"java/util/ArrayList", "add", "(Ljava/lang/Object;[Ljava/lang/Object;I)V"⟩, 3) := ⟨⟨by decide +kernel, by decide +kernel⟩, List.mem_of_getElem? (i := 89) (by decide +kernel), List.mem_of_getElem? (i := 142) (by decide +kernel), List.mem_of_getElem? (i := 143) (by decide +kernel)⟩
theorem lw_p1 : lw_okq (⟨"java/util/ArrayList", "grow", "()[Ljava/lang/Object;"⟩, 3) := ⟨⟨by decide +kernel, by decide +kernel⟩, List.mem_of_getElem? (i := 89) (by decide +kernel), List.mem_of_getElem? (i := 146) (by decide +kernel), List.mem_of_getElem? (i := 147) (by decide +kernel)⟩
theorem lw_p2 : lw_okq (⟨"java/util/ArrayList", "grow", "(I)[Ljava/lang/Object;"⟩, 3) := ⟨⟨by decide +kernel, by decide +kernel⟩, List.mem_of_getElem? (i := 89) (by decide +kernel), List.mem_of_getElem? (i := 150) (by decide +kernel), List.mem_of_getElem? (i := 151) (by decide +kernel)⟩
theorem lw_p3 : lw_okq (⟨"LetterBroker", "greet", "()I"⟩, 5) := ⟨⟨by decide +kernel, by decide +kernel⟩, List.mem_of_getElem? (i := 25) (by decide +kernel), List.mem_of_getElem? (i := 309) (by decide +kernel), List.mem_of_getElem? (i := 310) (by decide +kernel)⟩
theorem lw_p4 : lw_okq (⟨"LetterBroker", "handleFrame", "()I"⟩, 5) := ⟨⟨by decide +kernel, by decide +kernel⟩, List.mem_of_getElem? (i := 25) (by decide +kernel), List.mem_of_getElem? (i := 329) (by decide +kernel), List.mem_of_getElem? (i := 330) (by decide +kernel)⟩
theorem lw_p5 : lw_okq (⟨"LetterBroker", "channelNumbered", "(I)LLetterBroker$Channel;"⟩, 5) := ⟨⟨by decide +kernel, by decide +kernel⟩, List.mem_of_getElem? (i := 25) (by decide +kernel), List.mem_of_getElem? (i := 341) (by decide +kernel), List.mem_of_getElem? (i := 342) (by decide +kernel)⟩
theorem lw_p6 : lw_okq (⟨"LetterBroker", "handleOnLost", "(LLetterBroker$Channel;I)I"⟩, 5) := ⟨⟨by decide +kernel, by decide +kernel⟩, List.mem_of_getElem? (i := 25) (by decide +kernel), List.mem_of_getElem? (i := 345) (by decide +kernel), List.mem_of_getElem? (i := 346) (by decide +kernel)⟩
theorem lw_p7 : lw_okq (⟨"LetterBroker", "takeHead", "(LLetterBroker$Channel;LLetterBroker$Draft;)I"⟩, 5) := ⟨⟨by decide +kernel, by decide +kernel⟩, List.mem_of_getElem? (i := 25) (by decide +kernel), List.mem_of_getElem? (i := 365) (by decide +kernel), List.mem_of_getElem? (i := 366) (by decide +kernel)⟩
theorem lw_p8 : lw_okq (⟨"LetterBroker", "complete", "(LLetterBroker$Channel;LLetterBroker$Draft;)I"⟩, 5) := ⟨⟨by decide +kernel, by decide +kernel⟩, List.mem_of_getElem? (i := 25) (by decide +kernel), List.mem_of_getElem? (i := 370) (by decide +kernel), List.mem_of_getElem? (i := 371) (by decide +kernel)⟩
theorem lw_p9 : lw_okq (⟨"LetterBroker", "keep", "(LLetterBroker$Channel;LLetterBroker$Deed;)I"⟩, 5) := ⟨⟨by decide +kernel, by decide +kernel⟩, List.mem_of_getElem? (i := 25) (by decide +kernel), List.mem_of_getElem? (i := 395) (by decide +kernel), List.mem_of_getElem? (i := 396) (by decide +kernel)⟩
theorem lw_p10 : lw_okq (⟨"LetterBroker", "post", "(LLetterBroker$Channel;LLetterBroker$Draft;)I"⟩, 5) := ⟨⟨by decide +kernel, by decide +kernel⟩, List.mem_of_getElem? (i := 25) (by decide +kernel), List.mem_of_getElem? (i := 410) (by decide +kernel), List.mem_of_getElem? (i := 411) (by decide +kernel)⟩
theorem lw_p11 : lw_okq (⟨"LetterBroker$Office", "reaches", "(LLetterBroker$Draft;LLetterBroker$Queue;)Z"⟩, 6) := ⟨⟨by decide +kernel, by decide +kernel⟩, List.mem_of_getElem? (i := 83) (by decide +kernel), List.mem_of_getElem? (i := 440) (by decide +kernel), List.mem_of_getElem? (i := 441) (by decide +kernel)⟩
theorem lw_p12 : lw_okq (⟨"LetterBroker", "lettersInAll", "()I"⟩, 5) := ⟨⟨by decide +kernel, by decide +kernel⟩, List.mem_of_getElem? (i := 25) (by decide +kernel), List.mem_of_getElem? (i := 457) (by decide +kernel), List.mem_of_getElem? (i := 458) (by decide +kernel)⟩
theorem lw_p13 : lw_okq (⟨"LetterBroker", "sendReturned", "(LLetterBroker$Channel;LLetterBroker$Draft;)V"⟩, 5) := ⟨⟨by decide +kernel, by decide +kernel⟩, List.mem_of_getElem? (i := 25) (by decide +kernel), List.mem_of_getElem? (i := 465) (by decide +kernel), List.mem_of_getElem? (i := 466) (by decide +kernel)⟩
theorem lw_p14 : lw_okq (⟨"LetterBroker", "takeBody", "(LLetterBroker$Channel;LLetterBroker$Draft;)I"⟩, 5) := ⟨⟨by decide +kernel, by decide +kernel⟩, List.mem_of_getElem? (i := 25) (by decide +kernel), List.mem_of_getElem? (i := 517) (by decide +kernel), List.mem_of_getElem? (i := 518) (by decide +kernel)⟩
theorem lw_p15 : lw_okq (⟨"LetterBroker", "doLineMethod", "(I)I"⟩, 5) := ⟨⟨by decide +kernel, by decide +kernel⟩, List.mem_of_getElem? (i := 25) (by decide +kernel), List.mem_of_getElem? (i := 533) (by decide +kernel), List.mem_of_getElem? (i := 534) (by decide +kernel)⟩
def lw_privs_1 : List (MethodName × Nat) := [(⟨"java/util/ArrayList", "add", "(Ljava/lang/Object;[Ljava/lang/Object;I)V"⟩, 3), (⟨"java/util/ArrayList", "grow", "()[Ljava/lang/Object;"⟩, 3), (⟨"java/util/ArrayList", "grow", "(I)[Ljava/lang/Object;"⟩, 3), (⟨"LetterBroker", "greet", "()I"⟩, 5), (⟨"LetterBroker", "handleFrame", "()I"⟩, 5), (⟨"LetterBroker", "channelNumbered", "(I)LLetterBroker$Channel;"⟩, 5), (⟨"LetterBroker", "handleOnLost", "(LLetterBroker$Channel;I)I"⟩, 5), (⟨"LetterBroker", "takeHead", "(LLetterBroker$Channel;LLetterBroker$Draft;)I"⟩, 5), (⟨"LetterBroker", "complete", "(LLetterBroker$Channel;LLetterBroker$Draft;)I"⟩, 5), (⟨"LetterBroker", "keep", "(LLetterBroker$Channel;LLetterBroker$Deed;)I"⟩, 5), (⟨"LetterBroker", "post", "(LLetterBroker$Channel;LLetterBroker$Draft;)I"⟩, 5), (⟨"LetterBroker$Office", "reaches", "(LLetterBroker$Draft;LLetterBroker$Queue;)Z"⟩, 6), (⟨"LetterBroker", "lettersInAll", "()I"⟩, 5), (⟨"LetterBroker", "sendReturned", "(LLetterBroker$Channel;LLetterBroker$Draft;)V"⟩, 5), (⟨"LetterBroker", "takeBody", "(LLetterBroker$Channel;LLetterBroker$Draft;)I"⟩, 5), (⟨"LetterBroker", "doLineMethod", "(I)I"⟩, 5)]
theorem lw_r1 : ∀ q ∈ lw_privs_1, lw_okq q := List.forall_mem_cons.mpr ⟨lw_p0, List.forall_mem_cons.mpr ⟨lw_p1, List.forall_mem_cons.mpr ⟨lw_p2, List.forall_mem_cons.mpr ⟨lw_p3, List.forall_mem_cons.mpr ⟨lw_p4, List.forall_mem_cons.mpr ⟨lw_p5, List.forall_mem_cons.mpr ⟨lw_p6, List.forall_mem_cons.mpr ⟨lw_p7, List.forall_mem_cons.mpr ⟨lw_p8, List.forall_mem_cons.mpr ⟨lw_p9, List.forall_mem_cons.mpr ⟨lw_p10, List.forall_mem_cons.mpr ⟨lw_p11, List.forall_mem_cons.mpr ⟨lw_p12, List.forall_mem_cons.mpr ⟨lw_p13, List.forall_mem_cons.mpr ⟨lw_p14, List.forall_mem_cons.mpr ⟨lw_p15, fun _ h => absurd h List.not_mem_nil⟩⟩⟩⟩⟩⟩⟩⟩⟩⟩⟩⟩⟩⟩⟩⟩
theorem lw_p16 : lw_okq (⟨"LetterBroker", "lineMethodInTurn", "()I"⟩, 5) := ⟨⟨by decide +kernel, by decide +kernel⟩, List.mem_of_getElem? (i := 25) (by decide +kernel), List.mem_of_getElem? (i := 537) (by decide +kernel), List.mem_of_getElem? (i := 538) (by decide +kernel)⟩
theorem lw_p17 : lw_okq (⟨"LetterBroker", "shutLine", "()V"⟩, 5) := ⟨⟨by decide +kernel, by decide +kernel⟩, List.mem_of_getElem? (i := 25) (by decide +kernel), List.mem_of_getElem? (i := 541) (by decide +kernel), List.mem_of_getElem? (i := 542) (by decide +kernel)⟩
theorem lw_p18 : lw_okq (⟨"LetterBroker", "leaveChannel", "(LLetterBroker$Channel;I)V"⟩, 5) := ⟨⟨by decide +kernel, by decide +kernel⟩, List.mem_of_getElem? (i := 25) (by decide +kernel), List.mem_of_getElem? (i := 549) (by decide +kernel), List.mem_of_getElem? (i := 550) (by decide +kernel)⟩
theorem lw_p19 : lw_okq (⟨"java/util/ArrayList", "fastRemove", "([Ljava/lang/Object;I)V"⟩, 3) := ⟨⟨by decide +kernel, by decide +kernel⟩, List.mem_of_getElem? (i := 89) (by decide +kernel), List.mem_of_getElem? (i := 567) (by decide +kernel), List.mem_of_getElem? (i := 568) (by decide +kernel)⟩
theorem lw_p20 : lw_okq (⟨"java/util/ArrayList", "rangeCheckForAdd", "(I)V"⟩, 3) := ⟨⟨by decide +kernel, by decide +kernel⟩, List.mem_of_getElem? (i := 89) (by decide +kernel), List.mem_of_getElem? (i := 599) (by decide +kernel), List.mem_of_getElem? (i := 600) (by decide +kernel)⟩
theorem lw_p21 : lw_okq (⟨"LetterBroker", "doMethod", "(LLetterBroker$Channel;I)I"⟩, 5) := ⟨⟨by decide +kernel, by decide +kernel⟩, List.mem_of_getElem? (i := 25) (by decide +kernel), List.mem_of_getElem? (i := 616) (by decide +kernel), List.mem_of_getElem? (i := 617) (by decide +kernel)⟩
theorem lw_p22 : lw_okq (⟨"LetterBroker", "openChannel", "(LLetterBroker$Channel;)I"⟩, 5) := ⟨⟨by decide +kernel, by decide +kernel⟩, List.mem_of_getElem? (i := 25) (by decide +kernel), List.mem_of_getElem? (i := 620) (by decide +kernel), List.mem_of_getElem? (i := 621) (by decide +kernel)⟩
theorem lw_p23 : lw_okq (⟨"LetterBroker", "setFlow", "(LLetterBroker$Channel;)I"⟩, 5) := ⟨⟨by decide +kernel, by decide +kernel⟩, List.mem_of_getElem? (i := 25) (by decide +kernel), List.mem_of_getElem? (i := 628) (by decide +kernel), List.mem_of_getElem? (i := 629) (by decide +kernel)⟩
theorem lw_p24 : lw_okq (⟨"LetterBroker", "closeChannel", "(LLetterBroker$Channel;)I"⟩, 5) := ⟨⟨by decide +kernel, by decide +kernel⟩, List.mem_of_getElem? (i := 25) (by decide +kernel), List.mem_of_getElem? (i := 633) (by decide +kernel), List.mem_of_getElem? (i := 634) (by decide +kernel)⟩
theorem lw_p25 : lw_okq (⟨"LetterBroker", "declareExchange", "(LLetterBroker$Channel;)I"⟩, 5) := ⟨⟨by decide +kernel, by decide +kernel⟩, List.mem_of_getElem? (i := 25) (by decide +kernel), List.mem_of_getElem? (i := 637) (by decide +kernel), List.mem_of_getElem? (i := 638) (by decide +kernel)⟩
theorem lw_p26 : lw_okq (⟨"LetterBroker", "deleteExchange", "(LLetterBroker$Channel;)I"⟩, 5) := ⟨⟨by decide +kernel, by decide +kernel⟩, List.mem_of_getElem? (i := 25) (by decide +kernel), List.mem_of_getElem? (i := 655) (by decide +kernel), List.mem_of_getElem? (i := 656) (by decide +kernel)⟩
theorem lw_p27 : lw_okq (⟨"LetterBroker", "declareQueue", "(LLetterBroker$Channel;)I"⟩, 5) := ⟨⟨by decide +kernel, by decide +kernel⟩, List.mem_of_getElem? (i := 25) (by decide +kernel), List.mem_of_getElem? (i := 667) (by decide +kernel), List.mem_of_getElem? (i := 668) (by decide +kernel)⟩
theorem lw_p28 : lw_okq (⟨"LetterBroker", "changeBinding", "(LLetterBroker$Channel;I)I"⟩, 5) := ⟨⟨by decide +kernel, by decide +kernel⟩, List.mem_of_getElem? (i := 25) (by decide +kernel), List.mem_of_getElem? (i := 701) (by decide +kernel), List.mem_of_getElem? (i := 702) (by decide +kernel)⟩
theorem lw_p29 : lw_okq (⟨"LetterBroker", "purge", "(LLetterBroker$Channel;)I"⟩, 5) := ⟨⟨by decide +kernel, by decide +kernel⟩, List.mem_of_getElem? (i := 25) (by decide +kernel), List.mem_of_getElem? (i := 739) (by decide +kernel), List.mem_of_getElem? (i := 740) (by decide +kernel)⟩
theorem lw_p30 : lw_okq (⟨"LetterBroker", "deleteQueue", "(LLetterBroker$Channel;)I"⟩, 5) := ⟨⟨by decide +kernel, by decide +kernel⟩, List.mem_of_getElem? (i := 25) (by decide +kernel), List.mem_of_getElem? (i := 745) (by decide +kernel), List.mem_of_getElem? (i := 746) (by decide +kernel)⟩
theorem lw_p31 : lw_okq (⟨"LetterBroker", "setLimit", "(LLetterBroker$Channel;)I"⟩, 5) := ⟨⟨by decide +kernel, by decide +kernel⟩, List.mem_of_getElem? (i := 25) (by decide +kernel), List.mem_of_getElem? (i := 762) (by decide +kernel), List.mem_of_getElem? (i := 763) (by decide +kernel)⟩
def lw_privs_2 : List (MethodName × Nat) := [(⟨"LetterBroker", "lineMethodInTurn", "()I"⟩, 5), (⟨"LetterBroker", "shutLine", "()V"⟩, 5), (⟨"LetterBroker", "leaveChannel", "(LLetterBroker$Channel;I)V"⟩, 5), (⟨"java/util/ArrayList", "fastRemove", "([Ljava/lang/Object;I)V"⟩, 3), (⟨"java/util/ArrayList", "rangeCheckForAdd", "(I)V"⟩, 3), (⟨"LetterBroker", "doMethod", "(LLetterBroker$Channel;I)I"⟩, 5), (⟨"LetterBroker", "openChannel", "(LLetterBroker$Channel;)I"⟩, 5), (⟨"LetterBroker", "setFlow", "(LLetterBroker$Channel;)I"⟩, 5), (⟨"LetterBroker", "closeChannel", "(LLetterBroker$Channel;)I"⟩, 5), (⟨"LetterBroker", "declareExchange", "(LLetterBroker$Channel;)I"⟩, 5), (⟨"LetterBroker", "deleteExchange", "(LLetterBroker$Channel;)I"⟩, 5), (⟨"LetterBroker", "declareQueue", "(LLetterBroker$Channel;)I"⟩, 5), (⟨"LetterBroker", "changeBinding", "(LLetterBroker$Channel;I)I"⟩, 5), (⟨"LetterBroker", "purge", "(LLetterBroker$Channel;)I"⟩, 5), (⟨"LetterBroker", "deleteQueue", "(LLetterBroker$Channel;)I"⟩, 5), (⟨"LetterBroker", "setLimit", "(LLetterBroker$Channel;)I"⟩, 5)]
theorem lw_r2 : ∀ q ∈ lw_privs_2, lw_okq q := List.forall_mem_cons.mpr ⟨lw_p16, List.forall_mem_cons.mpr ⟨lw_p17, List.forall_mem_cons.mpr ⟨lw_p18, List.forall_mem_cons.mpr ⟨lw_p19, List.forall_mem_cons.mpr ⟨lw_p20, List.forall_mem_cons.mpr ⟨lw_p21, List.forall_mem_cons.mpr ⟨lw_p22, List.forall_mem_cons.mpr ⟨lw_p23, List.forall_mem_cons.mpr ⟨lw_p24, List.forall_mem_cons.mpr ⟨lw_p25, List.forall_mem_cons.mpr ⟨lw_p26, List.forall_mem_cons.mpr ⟨lw_p27, List.forall_mem_cons.mpr ⟨lw_p28, List.forall_mem_cons.mpr ⟨lw_p29, List.forall_mem_cons.mpr ⟨lw_p30, List.forall_mem_cons.mpr ⟨lw_p31, fun _ h => absurd h List.not_mem_nil⟩⟩⟩⟩⟩⟩⟩⟩⟩⟩⟩⟩⟩⟩⟩⟩
theorem lw_p32 : lw_okq (⟨"LetterBroker", "consume", "(LLetterBroker$Channel;)I"⟩, 5) := ⟨⟨by decide +kernel, by decide +kernel⟩, List.mem_of_getElem? (i := 25) (by decide +kernel), List.mem_of_getElem? (i := 766) (by decide +kernel), List.mem_of_getElem? (i := 767) (by decide +kernel)⟩
theorem lw_p33 : lw_okq (⟨"LetterBroker", "cancel", "(LLetterBroker$Channel;)I"⟩, 5) := ⟨⟨by decide +kernel, by decide +kernel⟩, List.mem_of_getElem? (i := 25) (by decide +kernel), List.mem_of_getElem? (i := 807) (by decide +kernel), List.mem_of_getElem? (i := 808) (by decide +kernel)⟩
theorem lw_p34 : lw_okq (⟨"LetterBroker", "publish", "(LLetterBroker$Channel;)I"⟩, 5) := ⟨⟨by decide +kernel, by decide +kernel⟩, List.mem_of_getElem? (i := 25) (by decide +kernel), List.mem_of_getElem? (i := 811) (by decide +kernel), List.mem_of_getElem? (i := 812) (by decide +kernel)⟩
theorem lw_p35 : lw_okq (⟨"LetterBroker", "get", "(LLetterBroker$Channel;)I"⟩, 5) := ⟨⟨by decide +kernel, by decide +kernel⟩, List.mem_of_getElem? (i := 25) (by decide +kernel), List.mem_of_getElem? (i := 856) (by decide +kernel), List.mem_of_getElem? (i := 857) (by decide +kernel)⟩
theorem lw_p36 : lw_okq (⟨"LetterBroker", "acknowledge", "(LLetterBroker$Channel;)I"⟩, 5) := ⟨⟨by decide +kernel, by decide +kernel⟩, List.mem_of_getElem? (i := 25) (by decide +kernel), List.mem_of_getElem? (i := 873) (by decide +kernel), List.mem_of_getElem? (i := 874) (by decide +kernel)⟩
theorem lw_p37 : lw_okq (⟨"LetterBroker", "settle", "(LLetterBroker$Channel;IZZ)I"⟩, 5) := ⟨⟨by decide +kernel, by decide +kernel⟩, List.mem_of_getElem? (i := 25) (by decide +kernel), List.mem_of_getElem? (i := 877) (by decide +kernel), List.mem_of_getElem? (i := 878) (by decide +kernel)⟩
theorem lw_p38 : lw_okq (⟨"LetterBroker", "reject", "(LLetterBroker$Channel;)I"⟩, 5) := ⟨⟨by decide +kernel, by decide +kernel⟩, List.mem_of_getElem? (i := 25) (by decide +kernel), List.mem_of_getElem? (i := 903) (by decide +kernel), List.mem_of_getElem? (i := 904) (by decide +kernel)⟩
theorem lw_p39 : lw_okq (⟨"LetterBroker", "recover", "(LLetterBroker$Channel;)I"⟩, 5) := ⟨⟨by decide +kernel, by decide +kernel⟩, List.mem_of_getElem? (i := 25) (by decide +kernel), List.mem_of_getElem? (i := 907) (by decide +kernel), List.mem_of_getElem? (i := 908) (by decide +kernel)⟩
theorem lw_p40 : lw_okq (⟨"LetterBroker", "refuse", "(LLetterBroker$Channel;)I"⟩, 5) := ⟨⟨by decide +kernel, by decide +kernel⟩, List.mem_of_getElem? (i := 25) (by decide +kernel), List.mem_of_getElem? (i := 911) (by decide +kernel), List.mem_of_getElem? (i := 912) (by decide +kernel)⟩
theorem lw_p41 : lw_okq (⟨"LetterBroker", "transact", "(LLetterBroker$Channel;)I"⟩, 5) := ⟨⟨by decide +kernel, by decide +kernel⟩, List.mem_of_getElem? (i := 25) (by decide +kernel), List.mem_of_getElem? (i := 915) (by decide +kernel), List.mem_of_getElem? (i := 916) (by decide +kernel)⟩
theorem lw_p42 : lw_okq (⟨"LetterBroker", "commit", "(LLetterBroker$Channel;)I"⟩, 5) := ⟨⟨by decide +kernel, by decide +kernel⟩, List.mem_of_getElem? (i := 25) (by decide +kernel), List.mem_of_getElem? (i := 919) (by decide +kernel), List.mem_of_getElem? (i := 920) (by decide +kernel)⟩
theorem lw_p43 : lw_okq (⟨"LetterBroker", "rollBack", "(LLetterBroker$Channel;)I"⟩, 5) := ⟨⟨by decide +kernel, by decide +kernel⟩, List.mem_of_getElem? (i := 25) (by decide +kernel), List.mem_of_getElem? (i := 925) (by decide +kernel), List.mem_of_getElem? (i := 926) (by decide +kernel)⟩
theorem lw_p44 : lw_okq (⟨"LetterBroker", "settleMistake", "(I)V"⟩, 5) := ⟨⟨by decide +kernel, by decide +kernel⟩, List.mem_of_getElem? (i := 25) (by decide +kernel), List.mem_of_getElem? (i := 929) (by decide +kernel), List.mem_of_getElem? (i := 930) (by decide +kernel)⟩
theorem lw_p45 : lw_okq (⟨"LetterBroker", "deliverAll", "()V"⟩, 5) := ⟨⟨by decide +kernel, by decide +kernel⟩, List.mem_of_getElem? (i := 25) (by decide +kernel), List.mem_of_getElem? (i := 942) (by decide +kernel), List.mem_of_getElem? (i := 943) (by decide +kernel)⟩
theorem lw_p46 : lw_okq (⟨"LetterBroker", "deliverNext", "()Z"⟩, 5) := ⟨⟨by decide +kernel, by decide +kernel⟩, List.mem_of_getElem? (i := 25) (by decide +kernel), List.mem_of_getElem? (i := 946) (by decide +kernel), List.mem_of_getElem? (i := 947) (by decide +kernel)⟩
theorem lw_p47 : lw_okq (⟨"LetterBroker", "deliver", "(LLetterBroker$Queue;LLetterBroker$Consumer;)V"⟩, 5) := ⟨⟨by decide +kernel, by decide +kernel⟩, List.mem_of_getElem? (i := 25) (by decide +kernel), List.mem_of_getElem? (i := 960) (by decide +kernel), List.mem_of_getElem? (i := 961) (by decide +kernel)⟩
def lw_privs_3 : List (MethodName × Nat) := [(⟨"LetterBroker", "consume", "(LLetterBroker$Channel;)I"⟩, 5), (⟨"LetterBroker", "cancel", "(LLetterBroker$Channel;)I"⟩, 5), (⟨"LetterBroker", "publish", "(LLetterBroker$Channel;)I"⟩, 5), (⟨"LetterBroker", "get", "(LLetterBroker$Channel;)I"⟩, 5), (⟨"LetterBroker", "acknowledge", "(LLetterBroker$Channel;)I"⟩, 5), (⟨"LetterBroker", "settle", "(LLetterBroker$Channel;IZZ)I"⟩, 5), (⟨"LetterBroker", "reject", "(LLetterBroker$Channel;)I"⟩, 5), (⟨"LetterBroker", "recover", "(LLetterBroker$Channel;)I"⟩, 5), (⟨"LetterBroker", "refuse", "(LLetterBroker$Channel;)I"⟩, 5), (⟨"LetterBroker", "transact", "(LLetterBroker$Channel;)I"⟩, 5), (⟨"LetterBroker", "commit", "(LLetterBroker$Channel;)I"⟩, 5), (⟨"LetterBroker", "rollBack", "(LLetterBroker$Channel;)I"⟩, 5), (⟨"LetterBroker", "settleMistake", "(I)V"⟩, 5), (⟨"LetterBroker", "deliverAll", "()V"⟩, 5), (⟨"LetterBroker", "deliverNext", "()Z"⟩, 5), (⟨"LetterBroker", "deliver", "(LLetterBroker$Queue;LLetterBroker$Consumer;)V"⟩, 5)]
theorem lw_r3 : ∀ q ∈ lw_privs_3, lw_okq q := List.forall_mem_cons.mpr ⟨lw_p32, List.forall_mem_cons.mpr ⟨lw_p33, List.forall_mem_cons.mpr ⟨lw_p34, List.forall_mem_cons.mpr ⟨lw_p35, List.forall_mem_cons.mpr ⟨lw_p36, List.forall_mem_cons.mpr ⟨lw_p37, List.forall_mem_cons.mpr ⟨lw_p38, List.forall_mem_cons.mpr ⟨lw_p39, List.forall_mem_cons.mpr ⟨lw_p40, List.forall_mem_cons.mpr ⟨lw_p41, List.forall_mem_cons.mpr ⟨lw_p42, List.forall_mem_cons.mpr ⟨lw_p43, List.forall_mem_cons.mpr ⟨lw_p44, List.forall_mem_cons.mpr ⟨lw_p45, List.forall_mem_cons.mpr ⟨lw_p46, List.forall_mem_cons.mpr ⟨lw_p47, fun _ h => absurd h List.not_mem_nil⟩⟩⟩⟩⟩⟩⟩⟩⟩⟩⟩⟩⟩⟩⟩⟩
theorem lw_p48 : lw_okq (⟨"LetterBrokerModel", "greet", "()I"⟩, 62) := ⟨⟨by decide +kernel, by decide +kernel⟩, List.mem_of_getElem? (i := 996) (by decide +kernel), List.mem_of_getElem? (i := 1199) (by decide +kernel), List.mem_of_getElem? (i := 1200) (by decide +kernel)⟩
theorem lw_p49 : lw_okq (⟨"LetterBrokerModel", "hard", "(I)V"⟩, 62) := ⟨⟨by decide +kernel, by decide +kernel⟩, List.mem_of_getElem? (i := 996) (by decide +kernel), List.mem_of_getElem? (i := 1204) (by decide +kernel), List.mem_of_getElem? (i := 1205) (by decide +kernel)⟩
theorem lw_p50 : lw_okq (⟨"LetterBrokerModel", "method", "(III)V"⟩, 62) := ⟨⟨by decide +kernel, by decide +kernel⟩, List.mem_of_getElem? (i := 996) (by decide +kernel), List.mem_of_getElem? (i := 1208) (by decide +kernel), List.mem_of_getElem? (i := 1209) (by decide +kernel)⟩
theorem lw_p51 : lw_okq (⟨"LetterBrokerModel", "begin", "(II)V"⟩, 62) := ⟨⟨by decide +kernel, by decide +kernel⟩, List.mem_of_getElem? (i := 996) (by decide +kernel), List.mem_of_getElem? (i := 1212) (by decide +kernel), List.mem_of_getElem? (i := 1213) (by decide +kernel)⟩
theorem lw_p52 : lw_okq (⟨"LetterBrokerModel", "put", "(I)V"⟩, 62) := ⟨⟨by decide +kernel, by decide +kernel⟩, List.mem_of_getElem? (i := 996) (by decide +kernel), List.mem_of_getElem? (i := 1216) (by decide +kernel), List.mem_of_getElem? (i := 1217) (by decide +kernel)⟩
theorem lw_p53 : lw_okq (⟨"LetterBrokerModel", "putShort", "(I)V"⟩, 62) := ⟨⟨by decide +kernel, by decide +kernel⟩, List.mem_of_getElem? (i := 996) (by decide +kernel), List.mem_of_getElem? (i := 1220) (by decide +kernel), List.mem_of_getElem? (i := 1221) (by decide +kernel)⟩
theorem lw_p54 : lw_okq (⟨"LetterBrokerModel", "finish", "()V"⟩, 62) := ⟨⟨by decide +kernel, by decide +kernel⟩, List.mem_of_getElem? (i := 996) (by decide +kernel), List.mem_of_getElem? (i := 1224) (by decide +kernel), List.mem_of_getElem? (i := 1225) (by decide +kernel)⟩
theorem lw_p55 : lw_okq (⟨"LetterBrokerModel", "shut", "()V"⟩, 62) := ⟨⟨by decide +kernel, by decide +kernel⟩, List.mem_of_getElem? (i := 996) (by decide +kernel), List.mem_of_getElem? (i := 1228) (by decide +kernel), List.mem_of_getElem? (i := 1229) (by decide +kernel)⟩
theorem lw_p56 : lw_okq (⟨"LetterBrokerModel", "endChannel", "(II)V"⟩, 62) := ⟨⟨by decide +kernel, by decide +kernel⟩, List.mem_of_getElem? (i := 996) (by decide +kernel), List.mem_of_getElem? (i := 1232) (by decide +kernel), List.mem_of_getElem? (i := 1233) (by decide +kernel)⟩
theorem lw_p57 : lw_okq (⟨"LetterBrokerModel", "removeConsumer", "(I)V"⟩, 62) := ⟨⟨by decide +kernel, by decide +kernel⟩, List.mem_of_getElem? (i := 996) (by decide +kernel), List.mem_of_getElem? (i := 1236) (by decide +kernel), List.mem_of_getElem? (i := 1237) (by decide +kernel)⟩
theorem lw_p58 : lw_okq (⟨"LetterBrokerModel", "allBack", "(I)V"⟩, 62) := ⟨⟨by decide +kernel, by decide +kernel⟩, List.mem_of_getElem? (i := 996) (by decide +kernel), List.mem_of_getElem? (i := 1240) (by decide +kernel), List.mem_of_getElem? (i := 1241) (by decide +kernel)⟩
theorem lw_p59 : lw_okq (⟨"LetterBrokerModel", "goesBack", "(I)Z"⟩, 62) := ⟨⟨by decide +kernel, by decide +kernel⟩, List.mem_of_getElem? (i := 996) (by decide +kernel), List.mem_of_getElem? (i := 1244) (by decide +kernel), List.mem_of_getElem? (i := 1245) (by decide +kernel)⟩
theorem lw_p60 : lw_okq (⟨"LetterBrokerModel", "isThere", "(I)Z"⟩, 62) := ⟨⟨by decide +kernel, by decide +kernel⟩, List.mem_of_getElem? (i := 996) (by decide +kernel), List.mem_of_getElem? (i := 1248) (by decide +kernel), List.mem_of_getElem? (i := 1249) (by decide +kernel)⟩
theorem lw_p61 : lw_okq (⟨"LetterBrokerModel", "removeLetter", "(I)V"⟩, 62) := ⟨⟨by decide +kernel, by decide +kernel⟩, List.mem_of_getElem? (i := 996) (by decide +kernel), List.mem_of_getElem? (i := 1252) (by decide +kernel), List.mem_of_getElem? (i := 1253) (by decide +kernel)⟩
theorem lw_p62 : lw_okq (⟨"LetterBrokerModel", "moveLetter", "(II)V"⟩, 62) := ⟨⟨by decide +kernel, by decide +kernel⟩, List.mem_of_getElem? (i := 996) (by decide +kernel), List.mem_of_getElem? (i := 1256) (by decide +kernel), List.mem_of_getElem? (i := 1257) (by decide +kernel)⟩
theorem lw_p63 : lw_okq (⟨"LetterBrokerModel", "drop", "(I)V"⟩, 62) := ⟨⟨by decide +kernel, by decide +kernel⟩, List.mem_of_getElem? (i := 996) (by decide +kernel), List.mem_of_getElem? (i := 1260) (by decide +kernel), List.mem_of_getElem? (i := 1261) (by decide +kernel)⟩
def lw_privs_4 : List (MethodName × Nat) := [(⟨"LetterBrokerModel", "greet", "()I"⟩, 62), (⟨"LetterBrokerModel", "hard", "(I)V"⟩, 62), (⟨"LetterBrokerModel", "method", "(III)V"⟩, 62), (⟨"LetterBrokerModel", "begin", "(II)V"⟩, 62), (⟨"LetterBrokerModel", "put", "(I)V"⟩, 62), (⟨"LetterBrokerModel", "putShort", "(I)V"⟩, 62), (⟨"LetterBrokerModel", "finish", "()V"⟩, 62), (⟨"LetterBrokerModel", "shut", "()V"⟩, 62), (⟨"LetterBrokerModel", "endChannel", "(II)V"⟩, 62), (⟨"LetterBrokerModel", "removeConsumer", "(I)V"⟩, 62), (⟨"LetterBrokerModel", "allBack", "(I)V"⟩, 62), (⟨"LetterBrokerModel", "goesBack", "(I)Z"⟩, 62), (⟨"LetterBrokerModel", "isThere", "(I)Z"⟩, 62), (⟨"LetterBrokerModel", "removeLetter", "(I)V"⟩, 62), (⟨"LetterBrokerModel", "moveLetter", "(II)V"⟩, 62), (⟨"LetterBrokerModel", "drop", "(I)V"⟩, 62)]
theorem lw_r4 : ∀ q ∈ lw_privs_4, lw_okq q := List.forall_mem_cons.mpr ⟨lw_p48, List.forall_mem_cons.mpr ⟨lw_p49, List.forall_mem_cons.mpr ⟨lw_p50, List.forall_mem_cons.mpr ⟨lw_p51, List.forall_mem_cons.mpr ⟨lw_p52, List.forall_mem_cons.mpr ⟨lw_p53, List.forall_mem_cons.mpr ⟨lw_p54, List.forall_mem_cons.mpr ⟨lw_p55, List.forall_mem_cons.mpr ⟨lw_p56, List.forall_mem_cons.mpr ⟨lw_p57, List.forall_mem_cons.mpr ⟨lw_p58, List.forall_mem_cons.mpr ⟨lw_p59, List.forall_mem_cons.mpr ⟨lw_p60, List.forall_mem_cons.mpr ⟨lw_p61, List.forall_mem_cons.mpr ⟨lw_p62, List.forall_mem_cons.mpr ⟨lw_p63, fun _ h => absurd h List.not_mem_nil⟩⟩⟩⟩⟩⟩⟩⟩⟩⟩⟩⟩⟩⟩⟩⟩
theorem lw_p64 : lw_okq (⟨"LetterBrokerModel", "say", "(III)V"⟩, 62) := ⟨⟨by decide +kernel, by decide +kernel⟩, List.mem_of_getElem? (i := 996) (by decide +kernel), List.mem_of_getElem? (i := 1264) (by decide +kernel), List.mem_of_getElem? (i := 1265) (by decide +kernel)⟩
theorem lw_p65 : lw_okq (⟨"LetterBrokerModel", "frameLength", "()I"⟩, 62) := ⟨⟨by decide +kernel, by decide +kernel⟩, List.mem_of_getElem? (i := 996) (by decide +kernel), List.mem_of_getElem? (i := 1268) (by decide +kernel), List.mem_of_getElem? (i := 1269) (by decide +kernel)⟩
theorem lw_p66 : lw_okq (⟨"LetterBrokerModel", "frame", "(I)V"⟩, 62) := ⟨⟨by decide +kernel, by decide +kernel⟩, List.mem_of_getElem? (i := 996) (by decide +kernel), List.mem_of_getElem? (i := 1272) (by decide +kernel), List.mem_of_getElem? (i := 1273) (by decide +kernel)⟩
theorem lw_p67 : lw_okq (⟨"LetterBrokerModel", "doMethod", "()V"⟩, 62) := ⟨⟨by decide +kernel, by decide +kernel⟩, List.mem_of_getElem? (i := 996) (by decide +kernel), List.mem_of_getElem? (i := 1276) (by decide +kernel), List.mem_of_getElem? (i := 1277) (by decide +kernel)⟩
theorem lw_p68 : lw_okq (⟨"LetterBrokerModel", "next", "()I"⟩, 62) := ⟨⟨by decide +kernel, by decide +kernel⟩, List.mem_of_getElem? (i := 996) (by decide +kernel), List.mem_of_getElem? (i := 1280) (by decide +kernel), List.mem_of_getElem? (i := 1281) (by decide +kernel)⟩
theorem lw_p69 : lw_okq (⟨"LetterBrokerModel", "lineMethod", "(II)V"⟩, 62) := ⟨⟨by decide +kernel, by decide +kernel⟩, List.mem_of_getElem? (i := 996) (by decide +kernel), List.mem_of_getElem? (i := 1284) (by decide +kernel), List.mem_of_getElem? (i := 1285) (by decide +kernel)⟩
theorem lw_p70 : lw_okq (⟨"LetterBrokerModel", "isJust", "()Z"⟩, 62) := ⟨⟨by decide +kernel, by decide +kernel⟩, List.mem_of_getElem? (i := 996) (by decide +kernel), List.mem_of_getElem? (i := 1288) (by decide +kernel), List.mem_of_getElem? (i := 1289) (by decide +kernel)⟩
theorem lw_p71 : lw_okq (⟨"LetterBrokerModel", "channelMethod", "(I)V"⟩, 62) := ⟨⟨by decide +kernel, by decide +kernel⟩, List.mem_of_getElem? (i := 996) (by decide +kernel), List.mem_of_getElem? (i := 1295) (by decide +kernel), List.mem_of_getElem? (i := 1296) (by decide +kernel)⟩
theorem lw_p72 : lw_okq (⟨"LetterBrokerModel", "exchangeMethod", "(I)V"⟩, 62) := ⟨⟨by decide +kernel, by decide +kernel⟩, List.mem_of_getElem? (i := 996) (by decide +kernel), List.mem_of_getElem? (i := 1299) (by decide +kernel), List.mem_of_getElem? (i := 1300) (by decide +kernel)⟩
theorem lw_p73 : lw_okq (⟨"LetterBrokerModel", "nextName", "()J"⟩, 62) := ⟨⟨by decide +kernel, by decide +kernel⟩, List.mem_of_getElem? (i := 996) (by decide +kernel), List.mem_of_getElem? (i := 1303) (by decide +kernel), List.mem_of_getElem? (i := 1304) (by decide +kernel)⟩
theorem lw_p74 : lw_okq (⟨"LetterBrokerModel", "nextTruth", "()Z"⟩, 62) := ⟨⟨by decide +kernel, by decide +kernel⟩, List.mem_of_getElem? (i := 996) (by decide +kernel), List.mem_of_getElem? (i := 1307) (by decide +kernel), List.mem_of_getElem? (i := 1308) (by decide +kernel)⟩
theorem lw_p75 : lw_okq (⟨"LetterBrokerModel", "exchangeOf", "(J)I"⟩, 62) := ⟨⟨by decide +kernel, by decide +kernel⟩, List.mem_of_getElem? (i := 996) (by decide +kernel), List.mem_of_getElem? (i := 1311) (by decide +kernel), List.mem_of_getElem? (i := 1312) (by decide +kernel)⟩
theorem lw_p76 : lw_okq (⟨"LetterBrokerModel", "soft", "(II)V"⟩, 62) := ⟨⟨by decide +kernel, by decide +kernel⟩, List.mem_of_getElem? (i := 996) (by decide +kernel), List.mem_of_getElem? (i := 1315) (by decide +kernel), List.mem_of_getElem? (i := 1316) (by decide +kernel)⟩
theorem lw_p77 : lw_okq (⟨"LetterBrokerModel", "hasBindings", "(J)Z"⟩, 62) := ⟨⟨by decide +kernel, by decide +kernel⟩, List.mem_of_getElem? (i := 996) (by decide +kernel), List.mem_of_getElem? (i := 1319) (by decide +kernel), List.mem_of_getElem? (i := 1320) (by decide +kernel)⟩
theorem lw_p78 : lw_okq (⟨"LetterBrokerModel", "removeExchange", "(I)V"⟩, 62) := ⟨⟨by decide +kernel, by decide +kernel⟩, List.mem_of_getElem? (i := 996) (by decide +kernel), List.mem_of_getElem? (i := 1323) (by decide +kernel), List.mem_of_getElem? (i := 1324) (by decide +kernel)⟩
theorem lw_p79 : lw_okq (⟨"LetterBrokerModel", "removeBinding", "(I)V"⟩, 62) := ⟨⟨by decide +kernel, by decide +kernel⟩, List.mem_of_getElem? (i := 996) (by decide +kernel), List.mem_of_getElem? (i := 1327) (by decide +kernel), List.mem_of_getElem? (i := 1328) (by decide +kernel)⟩
def lw_privs_5 : List (MethodName × Nat) := [(⟨"LetterBrokerModel", "say", "(III)V"⟩, 62), (⟨"LetterBrokerModel", "frameLength", "()I"⟩, 62), (⟨"LetterBrokerModel", "frame", "(I)V"⟩, 62), (⟨"LetterBrokerModel", "doMethod", "()V"⟩, 62), (⟨"LetterBrokerModel", "next", "()I"⟩, 62), (⟨"LetterBrokerModel", "lineMethod", "(II)V"⟩, 62), (⟨"LetterBrokerModel", "isJust", "()Z"⟩, 62), (⟨"LetterBrokerModel", "channelMethod", "(I)V"⟩, 62), (⟨"LetterBrokerModel", "exchangeMethod", "(I)V"⟩, 62), (⟨"LetterBrokerModel", "nextName", "()J"⟩, 62), (⟨"LetterBrokerModel", "nextTruth", "()Z"⟩, 62), (⟨"LetterBrokerModel", "exchangeOf", "(J)I"⟩, 62), (⟨"LetterBrokerModel", "soft", "(II)V"⟩, 62), (⟨"LetterBrokerModel", "hasBindings", "(J)Z"⟩, 62), (⟨"LetterBrokerModel", "removeExchange", "(I)V"⟩, 62), (⟨"LetterBrokerModel", "removeBinding", "(I)V"⟩, 62)]
theorem lw_r5 : ∀ q ∈ lw_privs_5, lw_okq q := List.forall_mem_cons.mpr ⟨lw_p64, List.forall_mem_cons.mpr ⟨lw_p65, List.forall_mem_cons.mpr ⟨lw_p66, List.forall_mem_cons.mpr ⟨lw_p67, List.forall_mem_cons.mpr ⟨lw_p68, List.forall_mem_cons.mpr ⟨lw_p69, List.forall_mem_cons.mpr ⟨lw_p70, List.forall_mem_cons.mpr ⟨lw_p71, List.forall_mem_cons.mpr ⟨lw_p72, List.forall_mem_cons.mpr ⟨lw_p73, List.forall_mem_cons.mpr ⟨lw_p74, List.forall_mem_cons.mpr ⟨lw_p75, List.forall_mem_cons.mpr ⟨lw_p76, List.forall_mem_cons.mpr ⟨lw_p77, List.forall_mem_cons.mpr ⟨lw_p78, List.forall_mem_cons.mpr ⟨lw_p79, fun _ h => absurd h List.not_mem_nil⟩⟩⟩⟩⟩⟩⟩⟩⟩⟩⟩⟩⟩⟩⟩⟩
theorem lw_p80 : lw_okq (⟨"LetterBrokerModel", "queueMethod", "(I)V"⟩, 62) := ⟨⟨by decide +kernel, by decide +kernel⟩, List.mem_of_getElem? (i := 996) (by decide +kernel), List.mem_of_getElem? (i := 1331) (by decide +kernel), List.mem_of_getElem? (i := 1332) (by decide +kernel)⟩
theorem lw_p81 : lw_okq (⟨"LetterBrokerModel", "declareQueue", "()V"⟩, 62) := ⟨⟨by decide +kernel, by decide +kernel⟩, List.mem_of_getElem? (i := 996) (by decide +kernel), List.mem_of_getElem? (i := 1335) (by decide +kernel), List.mem_of_getElem? (i := 1336) (by decide +kernel)⟩
theorem lw_p82 : lw_okq (⟨"LetterBrokerModel", "queueOf", "(J)I"⟩, 62) := ⟨⟨by decide +kernel, by decide +kernel⟩, List.mem_of_getElem? (i := 996) (by decide +kernel), List.mem_of_getElem? (i := 1339) (by decide +kernel), List.mem_of_getElem? (i := 1340) (by decide +kernel)⟩
theorem lw_p83 : lw_okq (⟨"LetterBrokerModel", "putName", "(J)V"⟩, 62) := ⟨⟨by decide +kernel, by decide +kernel⟩, List.mem_of_getElem? (i := 996) (by decide +kernel), List.mem_of_getElem? (i := 1343) (by decide +kernel), List.mem_of_getElem? (i := 1344) (by decide +kernel)⟩
theorem lw_p84 : lw_okq (⟨"LetterBrokerModel", "waiting", "(I)I"⟩, 62) := ⟨⟨by decide +kernel, by decide +kernel⟩, List.mem_of_getElem? (i := 996) (by decide +kernel), List.mem_of_getElem? (i := 1350) (by decide +kernel), List.mem_of_getElem? (i := 1351) (by decide +kernel)⟩
theorem lw_p85 : lw_okq (⟨"LetterBrokerModel", "consumersOf", "(I)I"⟩, 62) := ⟨⟨by decide +kernel, by decide +kernel⟩, List.mem_of_getElem? (i := 996) (by decide +kernel), List.mem_of_getElem? (i := 1354) (by decide +kernel), List.mem_of_getElem? (i := 1355) (by decide +kernel)⟩
theorem lw_p86 : lw_okq (⟨"LetterBrokerModel", "bind", "(I)V"⟩, 62) := ⟨⟨by decide +kernel, by decide +kernel⟩, List.mem_of_getElem? (i := 996) (by decide +kernel), List.mem_of_getElem? (i := 1358) (by decide +kernel), List.mem_of_getElem? (i := 1359) (by decide +kernel)⟩
theorem lw_p87 : lw_okq (⟨"LetterBrokerModel", "bindingOf", "(JJJ)I"⟩, 62) := ⟨⟨by decide +kernel, by decide +kernel⟩, List.mem_of_getElem? (i := 996) (by decide +kernel), List.mem_of_getElem? (i := 1362) (by decide +kernel), List.mem_of_getElem? (i := 1363) (by decide +kernel)⟩
theorem lw_p88 : lw_okq (⟨"LetterBrokerModel", "emptyQueue", "(I)V"⟩, 62) := ⟨⟨by decide +kernel, by decide +kernel⟩, List.mem_of_getElem? (i := 996) (by decide +kernel), List.mem_of_getElem? (i := 1366) (by decide +kernel), List.mem_of_getElem? (i := 1367) (by decide +kernel)⟩
theorem lw_p89 : lw_okq (⟨"LetterBrokerModel", "purge", "(I)I"⟩, 62) := ⟨⟨by decide +kernel, by decide +kernel⟩, List.mem_of_getElem? (i := 996) (by decide +kernel), List.mem_of_getElem? (i := 1370) (by decide +kernel), List.mem_of_getElem? (i := 1371) (by decide +kernel)⟩
theorem lw_p90 : lw_okq (⟨"LetterBrokerModel", "firstOf", "(I)I"⟩, 62) := ⟨⟨by decide +kernel, by decide +kernel⟩, List.mem_of_getElem? (i := 996) (by decide +kernel), List.mem_of_getElem? (i := 1374) (by decide +kernel), List.mem_of_getElem? (i := 1375) (by decide +kernel)⟩
theorem lw_p91 : lw_okq (⟨"LetterBrokerModel", "removeQueue", "(I)V"⟩, 62) := ⟨⟨by decide +kernel, by decide +kernel⟩, List.mem_of_getElem? (i := 996) (by decide +kernel), List.mem_of_getElem? (i := 1378) (by decide +kernel), List.mem_of_getElem? (i := 1379) (by decide +kernel)⟩
theorem lw_p92 : lw_okq (⟨"LetterBrokerModel", "letterMethod", "(I)V"⟩, 62) := ⟨⟨by decide +kernel, by decide +kernel⟩, List.mem_of_getElem? (i := 996) (by decide +kernel), List.mem_of_getElem? (i := 1382) (by decide +kernel), List.mem_of_getElem? (i := 1383) (by decide +kernel)⟩
theorem lw_p93 : lw_okq (⟨"LetterBrokerModel", "consume", "()V"⟩, 62) := ⟨⟨by decide +kernel, by decide +kernel⟩, List.mem_of_getElem? (i := 996) (by decide +kernel), List.mem_of_getElem? (i := 1386) (by decide +kernel), List.mem_of_getElem? (i := 1387) (by decide +kernel)⟩
theorem lw_p94 : lw_okq (⟨"LetterBrokerModel", "hasTag", "(IJ)Z"⟩, 62) := ⟨⟨by decide +kernel, by decide +kernel⟩, List.mem_of_getElem? (i := 996) (by decide +kernel), List.mem_of_getElem? (i := 1390) (by decide +kernel), List.mem_of_getElem? (i := 1391) (by decide +kernel)⟩
theorem lw_p95 : lw_okq (⟨"LetterBrokerModel", "cancel", "()V"⟩, 62) := ⟨⟨by decide +kernel, by decide +kernel⟩, List.mem_of_getElem? (i := 996) (by decide +kernel), List.mem_of_getElem? (i := 1394) (by decide +kernel), List.mem_of_getElem? (i := 1395) (by decide +kernel)⟩
def lw_privs_6 : List (MethodName × Nat) := [(⟨"LetterBrokerModel", "queueMethod", "(I)V"⟩, 62), (⟨"LetterBrokerModel", "declareQueue", "()V"⟩, 62), (⟨"LetterBrokerModel", "queueOf", "(J)I"⟩, 62), (⟨"LetterBrokerModel", "putName", "(J)V"⟩, 62), (⟨"LetterBrokerModel", "waiting", "(I)I"⟩, 62), (⟨"LetterBrokerModel", "consumersOf", "(I)I"⟩, 62), (⟨"LetterBrokerModel", "bind", "(I)V"⟩, 62), (⟨"LetterBrokerModel", "bindingOf", "(JJJ)I"⟩, 62), (⟨"LetterBrokerModel", "emptyQueue", "(I)V"⟩, 62), (⟨"LetterBrokerModel", "purge", "(I)I"⟩, 62), (⟨"LetterBrokerModel", "firstOf", "(I)I"⟩, 62), (⟨"LetterBrokerModel", "removeQueue", "(I)V"⟩, 62), (⟨"LetterBrokerModel", "letterMethod", "(I)V"⟩, 62), (⟨"LetterBrokerModel", "consume", "()V"⟩, 62), (⟨"LetterBrokerModel", "hasTag", "(IJ)Z"⟩, 62), (⟨"LetterBrokerModel", "cancel", "()V"⟩, 62)]
theorem lw_r6 : ∀ q ∈ lw_privs_6, lw_okq q := List.forall_mem_cons.mpr ⟨lw_p80, List.forall_mem_cons.mpr ⟨lw_p81, List.forall_mem_cons.mpr ⟨lw_p82, List.forall_mem_cons.mpr ⟨lw_p83, List.forall_mem_cons.mpr ⟨lw_p84, List.forall_mem_cons.mpr ⟨lw_p85, List.forall_mem_cons.mpr ⟨lw_p86, List.forall_mem_cons.mpr ⟨lw_p87, List.forall_mem_cons.mpr ⟨lw_p88, List.forall_mem_cons.mpr ⟨lw_p89, List.forall_mem_cons.mpr ⟨lw_p90, List.forall_mem_cons.mpr ⟨lw_p91, List.forall_mem_cons.mpr ⟨lw_p92, List.forall_mem_cons.mpr ⟨lw_p93, List.forall_mem_cons.mpr ⟨lw_p94, List.forall_mem_cons.mpr ⟨lw_p95, fun _ h => absurd h List.not_mem_nil⟩⟩⟩⟩⟩⟩⟩⟩⟩⟩⟩⟩⟩⟩⟩⟩
theorem lw_p96 : lw_okq (⟨"LetterBrokerModel", "publish", "()V"⟩, 62) := ⟨⟨by decide +kernel, by decide +kernel⟩, List.mem_of_getElem? (i := 996) (by decide +kernel), List.mem_of_getElem? (i := 1398) (by decide +kernel), List.mem_of_getElem? (i := 1399) (by decide +kernel)⟩
theorem lw_p97 : lw_okq (⟨"LetterBrokerModel", "get", "()V"⟩, 62) := ⟨⟨by decide +kernel, by decide +kernel⟩, List.mem_of_getElem? (i := 996) (by decide +kernel), List.mem_of_getElem? (i := 1402) (by decide +kernel), List.mem_of_getElem? (i := 1403) (by decide +kernel)⟩
theorem lw_p98 : lw_okq (⟨"LetterBrokerModel", "tell", "(II)V"⟩, 62) := ⟨⟨by decide +kernel, by decide +kernel⟩, List.mem_of_getElem? (i := 996) (by decide +kernel), List.mem_of_getElem? (i := 1406) (by decide +kernel), List.mem_of_getElem? (i := 1407) (by decide +kernel)⟩
theorem lw_p99 : lw_okq (⟨"LetterBrokerModel", "putLetter", "(IIJ)V"⟩, 62) := ⟨⟨by decide +kernel, by decide +kernel⟩, List.mem_of_getElem? (i := 996) (by decide +kernel), List.mem_of_getElem? (i := 1410) (by decide +kernel), List.mem_of_getElem? (i := 1411) (by decide +kernel)⟩
theorem lw_p100 : lw_okq (⟨"LetterBrokerModel", "take", "(IIZ)V"⟩, 62) := ⟨⟨by decide +kernel, by decide +kernel⟩, List.mem_of_getElem? (i := 996) (by decide +kernel), List.mem_of_getElem? (i := 1414) (by decide +kernel), List.mem_of_getElem? (i := 1415) (by decide +kernel)⟩
theorem lw_p101 : lw_okq (⟨"LetterBrokerModel", "nextShort", "()I"⟩, 62) := ⟨⟨by decide +kernel, by decide +kernel⟩, List.mem_of_getElem? (i := 996) (by decide +kernel), List.mem_of_getElem? (i := 1418) (by decide +kernel), List.mem_of_getElem? (i := 1419) (by decide +kernel)⟩
theorem lw_p102 : lw_okq (⟨"LetterBrokerModel", "settleOrKeep", "(IIIZ)V"⟩, 62) := ⟨⟨by decide +kernel, by decide +kernel⟩, List.mem_of_getElem? (i := 996) (by decide +kernel), List.mem_of_getElem? (i := 1422) (by decide +kernel), List.mem_of_getElem? (i := 1423) (by decide +kernel)⟩
theorem lw_p103 : lw_okq (⟨"LetterBrokerModel", "isMeant", "(IIIZ)Z"⟩, 62) := ⟨⟨by decide +kernel, by decide +kernel⟩, List.mem_of_getElem? (i := 996) (by decide +kernel), List.mem_of_getElem? (i := 1426) (by decide +kernel), List.mem_of_getElem? (i := 1427) (by decide +kernel)⟩
theorem lw_p104 : lw_okq (⟨"LetterBrokerModel", "settle", "(IIIZ)V"⟩, 62) := ⟨⟨by decide +kernel, by decide +kernel⟩, List.mem_of_getElem? (i := 996) (by decide +kernel), List.mem_of_getElem? (i := 1430) (by decide +kernel), List.mem_of_getElem? (i := 1431) (by decide +kernel)⟩
theorem lw_p105 : lw_okq (⟨"LetterBrokerModel", "transactionMethod", "(I)V"⟩, 62) := ⟨⟨by decide +kernel, by decide +kernel⟩, List.mem_of_getElem? (i := 996) (by decide +kernel), List.mem_of_getElem? (i := 1434) (by decide +kernel), List.mem_of_getElem? (i := 1435) (by decide +kernel)⟩
theorem lw_p106 : lw_okq (⟨"LetterBrokerModel", "commit", "(I)V"⟩, 62) := ⟨⟨by decide +kernel, by decide +kernel⟩, List.mem_of_getElem? (i := 996) (by decide +kernel), List.mem_of_getElem? (i := 1438) (by decide +kernel), List.mem_of_getElem? (i := 1439) (by decide +kernel)⟩
theorem lw_p107 : lw_okq (⟨"LetterBrokerModel", "route", "(IJJZIJ)Z"⟩, 62) := ⟨⟨by decide +kernel, by decide +kernel⟩, List.mem_of_getElem? (i := 996) (by decide +kernel), List.mem_of_getElem? (i := 1442) (by decide +kernel), List.mem_of_getElem? (i := 1443) (by decide +kernel)⟩
theorem lw_p108 : lw_okq (⟨"LetterBrokerModel", "reaches", "(IIJ)Z"⟩, 62) := ⟨⟨by decide +kernel, by decide +kernel⟩, List.mem_of_getElem? (i := 996) (by decide +kernel), List.mem_of_getElem? (i := 1446) (by decide +kernel), List.mem_of_getElem? (i := 1447) (by decide +kernel)⟩
theorem lw_p109 : lw_okq (⟨"LetterBrokerModel", "fits", "(JJ)Z"⟩, 62) := ⟨⟨by decide +kernel, by decide +kernel⟩, List.mem_of_getElem? (i := 996) (by decide +kernel), List.mem_of_getElem? (i := 1450) (by decide +kernel), List.mem_of_getElem? (i := 1451) (by decide +kernel)⟩
theorem lw_p110 : lw_okq (⟨"LetterBrokerModel", "fitsAt", "(III)Z"⟩, 62) := ⟨⟨by decide +kernel, by decide +kernel⟩, List.mem_of_getElem? (i := 996) (by decide +kernel), List.mem_of_getElem? (i := 1458) (by decide +kernel), List.mem_of_getElem? (i := 1459) (by decide +kernel)⟩
theorem lw_p111 : lw_okq (⟨"LetterBrokerModel", "head", "()V"⟩, 62) := ⟨⟨by decide +kernel, by decide +kernel⟩, List.mem_of_getElem? (i := 996) (by decide +kernel), List.mem_of_getElem? (i := 1464) (by decide +kernel), List.mem_of_getElem? (i := 1465) (by decide +kernel)⟩
def lw_privs_7 : List (MethodName × Nat) := [(⟨"LetterBrokerModel", "publish", "()V"⟩, 62), (⟨"LetterBrokerModel", "get", "()V"⟩, 62), (⟨"LetterBrokerModel", "tell", "(II)V"⟩, 62), (⟨"LetterBrokerModel", "putLetter", "(IIJ)V"⟩, 62), (⟨"LetterBrokerModel", "take", "(IIZ)V"⟩, 62), (⟨"LetterBrokerModel", "nextShort", "()I"⟩, 62), (⟨"LetterBrokerModel", "settleOrKeep", "(IIIZ)V"⟩, 62), (⟨"LetterBrokerModel", "isMeant", "(IIIZ)Z"⟩, 62), (⟨"LetterBrokerModel", "settle", "(IIIZ)V"⟩, 62), (⟨"LetterBrokerModel", "transactionMethod", "(I)V"⟩, 62), (⟨"LetterBrokerModel", "commit", "(I)V"⟩, 62), (⟨"LetterBrokerModel", "route", "(IJJZIJ)Z"⟩, 62), (⟨"LetterBrokerModel", "reaches", "(IIJ)Z"⟩, 62), (⟨"LetterBrokerModel", "fits", "(JJ)Z"⟩, 62), (⟨"LetterBrokerModel", "fitsAt", "(III)Z"⟩, 62), (⟨"LetterBrokerModel", "head", "()V"⟩, 62)]
theorem lw_r7 : ∀ q ∈ lw_privs_7, lw_okq q := List.forall_mem_cons.mpr ⟨lw_p96, List.forall_mem_cons.mpr ⟨lw_p97, List.forall_mem_cons.mpr ⟨lw_p98, List.forall_mem_cons.mpr ⟨lw_p99, List.forall_mem_cons.mpr ⟨lw_p100, List.forall_mem_cons.mpr ⟨lw_p101, List.forall_mem_cons.mpr ⟨lw_p102, List.forall_mem_cons.mpr ⟨lw_p103, List.forall_mem_cons.mpr ⟨lw_p104, List.forall_mem_cons.mpr ⟨lw_p105, List.forall_mem_cons.mpr ⟨lw_p106, List.forall_mem_cons.mpr ⟨lw_p107, List.forall_mem_cons.mpr ⟨lw_p108, List.forall_mem_cons.mpr ⟨lw_p109, List.forall_mem_cons.mpr ⟨lw_p110, List.forall_mem_cons.mpr ⟨lw_p111, fun _ h => absurd h List.not_mem_nil⟩⟩⟩⟩⟩⟩⟩⟩⟩⟩⟩⟩⟩⟩⟩⟩
theorem lw_p112 : lw_okq (⟨"LetterBrokerModel", "complete", "(I)V"⟩, 62) := ⟨⟨by decide +kernel, by decide +kernel⟩, List.mem_of_getElem? (i := 996) (by decide +kernel), List.mem_of_getElem? (i := 1468) (by decide +kernel), List.mem_of_getElem? (i := 1469) (by decide +kernel)⟩
theorem lw_p113 : lw_okq (⟨"LetterBrokerModel", "body", "()V"⟩, 62) := ⟨⟨by decide +kernel, by decide +kernel⟩, List.mem_of_getElem? (i := 996) (by decide +kernel), List.mem_of_getElem? (i := 1472) (by decide +kernel), List.mem_of_getElem? (i := 1473) (by decide +kernel)⟩
theorem lw_p114 : lw_okq (⟨"LetterBrokerModel", "deliver", "()Z"⟩, 62) := ⟨⟨by decide +kernel, by decide +kernel⟩, List.mem_of_getElem? (i := 996) (by decide +kernel), List.mem_of_getElem? (i := 1476) (by decide +kernel), List.mem_of_getElem? (i := 1477) (by decide +kernel)⟩
theorem lw_p115 : lw_okq (⟨"LetterBrokerModel", "nextConsumer", "(I)I"⟩, 62) := ⟨⟨by decide +kernel, by decide +kernel⟩, List.mem_of_getElem? (i := 996) (by decide +kernel), List.mem_of_getElem? (i := 1480) (by decide +kernel), List.mem_of_getElem? (i := 1481) (by decide +kernel)⟩
theorem lw_p116 : lw_okq (⟨"LetterBrokerModel", "canTake", "(I)Z"⟩, 62) := ⟨⟨by decide +kernel, by decide +kernel⟩, List.mem_of_getElem? (i := 996) (by decide +kernel), List.mem_of_getElem? (i := 1484) (by decide +kernel), List.mem_of_getElem? (i := 1485) (by decide +kernel)⟩
theorem lw_p117 : lw_okq (⟨"LetterBrokerModel", "held", "(I)I"⟩, 62) := ⟨⟨by decide +kernel, by decide +kernel⟩, List.mem_of_getElem? (i := 996) (by decide +kernel), List.mem_of_getElem? (i := 1488) (by decide +kernel), List.mem_of_getElem? (i := 1489) (by decide +kernel)⟩
def lw_privs_8 : List (MethodName × Nat) := [(⟨"LetterBrokerModel", "complete", "(I)V"⟩, 62), (⟨"LetterBrokerModel", "body", "()V"⟩, 62), (⟨"LetterBrokerModel", "deliver", "()Z"⟩, 62), (⟨"LetterBrokerModel", "nextConsumer", "(I)I"⟩, 62), (⟨"LetterBrokerModel", "canTake", "(I)Z"⟩, 62), (⟨"LetterBrokerModel", "held", "(I)I"⟩, 62)]
theorem lw_r8 : ∀ q ∈ lw_privs_8, lw_okq q := List.forall_mem_cons.mpr ⟨lw_p112, List.forall_mem_cons.mpr ⟨lw_p113, List.forall_mem_cons.mpr ⟨lw_p114, List.forall_mem_cons.mpr ⟨lw_p115, List.forall_mem_cons.mpr ⟨lw_p116, List.forall_mem_cons.mpr ⟨lw_p117, fun _ h => absurd h List.not_mem_nil⟩⟩⟩⟩⟩⟩
def lw_privs : List (MethodName × Nat) := lw_privs_1 ++ (lw_privs_2 ++ (lw_privs_3 ++ (lw_privs_4 ++ (lw_privs_5 ++ (lw_privs_6 ++ (lw_privs_7 ++ (lw_privs_8)))))))
def lw_tbl : List Cond := k2_sels lw_privs ++ tables_1
theorem lw_privs_ok : ∀ q ∈ lw_privs, lw_okq q := by
  show ∀ q ∈ lw_privs_1 ++ (lw_privs_2 ++ (lw_privs_3 ++ (lw_privs_4 ++ (lw_privs_5 ++ (lw_privs_6 ++ (lw_privs_7 ++ (lw_privs_8))))))), lw_okq q
  exact List.forall_mem_append.mpr ⟨lw_r1, List.forall_mem_append.mpr ⟨lw_r2, List.forall_mem_append.mpr ⟨lw_r3, List.forall_mem_append.mpr ⟨lw_r4, List.forall_mem_append.mpr ⟨lw_r5, List.forall_mem_append.mpr ⟨lw_r6, List.forall_mem_append.mpr ⟨lw_r7, lw_r8⟩⟩⟩⟩⟩⟩⟩
-- ===== end of PART A; then your names; then what follows =====
/-! ===== BEGIN words of one list among another's, by their places ===== -/
theorem goodIn_r {big : List Cond} (ws : List Cond) (ps : List Nat) (hp : ws = ps.filterMap (fun i => big[i]?)) (h : ws.all goodWord = true) : GoodIn big ws := by
  intro w hw
  have h1 := List.all_eq_true.mp h w hw
  rw [hp] at hw
  obtain ⟨i, -, hi⟩ := List.mem_filterMap.mp hw
  have hm : w ∈ big := by first | exact List.mem_of_getElem? hi | exact List.getElem?_mem hi
  exact ⟨hm, good_of_word h1⟩
theorem goodIn_app {big a b : List Cond} (ha : GoodIn big a) (hb : GoodIn big b) : GoodIn big (a ++ b) := fun w h => (List.mem_append.mp h).elim (ha w) (hb w)
theorem goodIn_ca {big a b : List Cond} {c : Cond} (ha : GoodIn big (c :: a)) (hb : GoodIn big b) : GoodIn big (c :: (a ++ b)) := fun w h => (List.mem_cons.mp h).elim (fun e => ha w (List.mem_cons.mpr (Or.inl e))) (fun h => (List.mem_append.mp h).elim (fun h => ha w (List.mem_cons.mpr (Or.inr h))) (hb w))
theorem goodIn_sub {big ws : List Cond} (hm : ∀ w ∈ ws, w ∈ big) (h : ws.all goodWord = true) : GoodIn big ws := fun w hw => ⟨hm w hw, good_of_word (List.all_eq_true.mp h w hw)⟩
/-! ===== END ===== -/

/-! ===== BEGIN printed: names, fields, word lists, decode rows ===== -/
def RX0 : String := "LetterBroker$Binding"
def TX0 : u_T := fun k => match k with
  | 0 => ("LetterBroker$Binding", "queue", "LLetterBroker$Queue;", true)
  | 1 => ("LetterBroker$Binding", "exchange", "LLetterBroker$Exchange;", true)
  | 2 => ("LetterBroker$Binding", "key", "J", true)
  | _ => ("LetterBroker$Binding", "words", "[J", true)
def tyX0 : Nat → FieldType := fun k => match k with
  | 0 => .object "LetterBroker$Queue"
  | 1 => .object "LetterBroker$Exchange"
  | 2 => .long
  | _ => .array .long
abbrev wsX00 : List Cond := u_ws RX0 TX0 4
theorem nmX0 : ∀ a, a < 4 → ∀ b, b < 4 → a ≠ b → (TX0 a).2.1 ≠ (TX0 b).2.1 := by decide +kernel
theorem tyX0_ok : ∀ k, k < 4 → parseFieldDescriptor (TX0 k).2.2.1 = some (tyX0 k) := by decide +kernel
abbrev cX0_init : ByteArray := prog_2_method_1_code
def yX0_init : MethodName := ⟨RX0, "<init>", "(LLetterBroker$Queue;LLetterBroker$Exchange;J)V"⟩
abbrev cX0_fits : ByteArray := prog_2_method_2_code
def yX0_fits : MethodName := ⟨RX0, "fits", "(LLetterBroker$Draft;)Z"⟩
abbrev cX0_wordsOf : ByteArray := prog_2_method_3_code
def yX0_wordsOf : MethodName := ⟨RX0, "wordsOf", "(J)[J"⟩
def RX1 : String := "LetterBroker$Channel"
def TX1 : u_T := fun k => match k with
  | 0 => ("LetterBroker$Channel", "number", "I", true)
  | 1 => ("LetterBroker$Channel", "held", "Ljava/util/List;", true)
  | 2 => ("LetterBroker$Channel", "kept", "Ljava/util/List;", true)
  | 3 => ("LetterBroker$Channel", "state", "I", false)
  | 4 => ("LetterBroker$Channel", "limit", "I", false)
  | 5 => ("LetterBroker$Channel", "flowing", "Z", false)
  | 6 => ("LetterBroker$Channel", "transacted", "Z", false)
  | 7 => ("LetterBroker$Channel", "delivered", "I", false)
  | _ => ("LetterBroker$Channel", "draft", "LLetterBroker$Draft;", false)
def tyX1 : Nat → FieldType := fun k => match k with
  | 0 => .int
  | 1 => .object "java/util/List"
  | 2 => .object "java/util/List"
  | 3 => .int
  | 4 => .int
  | 5 => .boolean
  | 6 => .boolean
  | 7 => .int
  | _ => .object "LetterBroker$Draft"
abbrev wsX10 : List Cond := u_ws RX1 TX1 9
theorem nmX1 : ∀ a, a < 9 → ∀ b, b < 9 → a ≠ b → (TX1 a).2.1 ≠ (TX1 b).2.1 := by decide +kernel
theorem tyX1_ok : ∀ k, k < 9 → parseFieldDescriptor (TX1 k).2.2.1 = some (tyX1 k) := by decide +kernel
abbrev cX1_init : ByteArray := prog_3_method_1_code
def yX1_init : MethodName := ⟨RX1, "<init>", "(I)V"⟩
abbrev cX1_begin : ByteArray := prog_3_method_2_code
def yX1_begin : MethodName := ⟨RX1, "begin", "()V"⟩
abbrev cX1_take : ByteArray := prog_3_method_3_code
def yX1_take : MethodName := ⟨RX1, "take", "(LLetterBroker$Letter;Z)V"⟩
abbrev cX1_holdsSomeOf : ByteArray := prog_3_method_4_code
def yX1_holdsSomeOf : MethodName := ⟨RX1, "holdsSomeOf", "(LLetterBroker$Deed;)Z"⟩
abbrev cX1_settle : ByteArray := prog_3_method_5_code
def yX1_settle : MethodName := ⟨RX1, "settle", "(LLetterBroker$Deed;)V"⟩
abbrev cX1_giveAllBack : ByteArray := prog_3_method_6_code
def yX1_giveAllBack : MethodName := ⟨RX1, "giveAllBack", "()V"⟩
abbrev cX1_leave : ByteArray := prog_3_method_7_code
def yX1_leave : MethodName := ⟨RX1, "leave", "(I)V"⟩
def RX2 : String := "LetterBroker$Consumer"
def TX2 : u_T := fun k => match k with
  | 0 => ("LetterBroker$Consumer", "queue", "LLetterBroker$Queue;", true)
  | 1 => ("LetterBroker$Consumer", "channel", "LLetterBroker$Channel;", true)
  | 2 => ("LetterBroker$Consumer", "tag", "J", true)
  | 3 => ("LetterBroker$Consumer", "holdsNothing", "Z", true)
  | _ => ("LetterBroker$Consumer", "serial", "I", true)
def tyX2 : Nat → FieldType := fun k => match k with
  | 0 => .object "LetterBroker$Queue"
  | 1 => .object "LetterBroker$Channel"
  | 2 => .long
  | 3 => .boolean
  | _ => .int
abbrev wsX20 : List Cond := u_ws RX2 TX2 5
theorem nmX2 : ∀ a, a < 5 → ∀ b, b < 5 → a ≠ b → (TX2 a).2.1 ≠ (TX2 b).2.1 := by decide +kernel
theorem tyX2_ok : ∀ k, k < 5 → parseFieldDescriptor (TX2 k).2.2.1 = some (tyX2 k) := by decide +kernel
abbrev cX2_init : ByteArray := prog_4_method_1_code
def yX2_init : MethodName := ⟨RX2, "<init>", "(LLetterBroker$Queue;LLetterBroker$Channel;JZI)V"⟩
abbrev cX2_isWilling : ByteArray := prog_4_method_2_code
def yX2_isWilling : MethodName := ⟨RX2, "isWilling", "()Z"⟩
def RX3 : String := "LetterBroker$Deed"
def TX3 : u_T := fun k => match k with
  | 0 => ("LetterBroker$Deed", "draft", "LLetterBroker$Draft;", true)
  | 1 => ("LetterBroker$Deed", "n", "I", true)
  | 2 => ("LetterBroker$Deed", "upTo", "Z", true)
  | _ => ("LetterBroker$Deed", "back", "Z", true)
def tyX3 : Nat → FieldType := fun k => match k with
  | 0 => .object "LetterBroker$Draft"
  | 1 => .int
  | 2 => .boolean
  | _ => .boolean
abbrev wsX30 : List Cond := u_ws RX3 TX3 4
theorem nmX3 : ∀ a, a < 4 → ∀ b, b < 4 → a ≠ b → (TX3 a).2.1 ≠ (TX3 b).2.1 := by decide +kernel
theorem tyX3_ok : ∀ k, k < 4 → parseFieldDescriptor (TX3 k).2.2.1 = some (tyX3 k) := by decide +kernel
abbrev cX3_init : ByteArray := prog_5_method_1_code
def yX3_init : MethodName := ⟨RX3, "<init>", "(LLetterBroker$Draft;)V"⟩
abbrev cX3_init_ : ByteArray := prog_5_method_2_code
def yX3_init_ : MethodName := ⟨RX3, "<init>", "(IZZ)V"⟩
abbrev cX3_coversAll : ByteArray := prog_5_method_3_code
def yX3_coversAll : MethodName := ⟨RX3, "coversAll", "()Z"⟩
abbrev cX3_covers : ByteArray := prog_5_method_4_code
def yX3_covers : MethodName := ⟨RX3, "covers", "(LLetterBroker$Letter;)Z"⟩
def RX4 : String := "LetterBroker$Draft"
def TX4 : u_T := fun k => match k with
  | 0 => ("LetterBroker$Draft", "exchange", "J", true)
  | 1 => ("LetterBroker$Draft", "key", "J", true)
  | 2 => ("LetterBroker$Draft", "mustReach", "Z", true)
  | 3 => ("LetterBroker$Draft", "words", "[J", true)
  | 4 => ("LetterBroker$Draft", "length", "I", false)
  | 5 => ("LetterBroker$Draft", "body", "J", false)
  | _ => ("LetterBroker$Draft", "bodySize", "I", false)
def tyX4 : Nat → FieldType := fun k => match k with
  | 0 => .long
  | 1 => .long
  | 2 => .boolean
  | 3 => .array .long
  | 4 => .int
  | 5 => .long
  | _ => .int
abbrev wsX40 : List Cond := u_ws RX4 TX4 7
theorem nmX4 : ∀ a, a < 7 → ∀ b, b < 7 → a ≠ b → (TX4 a).2.1 ≠ (TX4 b).2.1 := by decide +kernel
theorem tyX4_ok : ∀ k, k < 7 → parseFieldDescriptor (TX4 k).2.2.1 = some (tyX4 k) := by decide +kernel
abbrev cX4_init : ByteArray := prog_6_method_1_code
def yX4_init : MethodName := ⟨RX4, "<init>", "(JJZ)V"⟩
abbrev cX4_due : ByteArray := prog_6_method_2_code
def yX4_due : MethodName := ⟨RX4, "due", "()I"⟩
abbrev cX4_lacks : ByteArray := prog_6_method_3_code
def yX4_lacks : MethodName := ⟨RX4, "lacks", "()I"⟩
abbrev cX4_append : ByteArray := prog_6_method_4_code
def yX4_append : MethodName := ⟨RX4, "append", "(I)V"⟩
def RX5 : String := "LetterBroker$Exchange"
def TX5 : u_T := fun k => match k with
  | 0 => ("LetterBroker$Exchange", "name", "J", true)
  | _ => ("LetterBroker$Exchange", "kind", "I", true)
def tyX5 : Nat → FieldType := fun k => match k with
  | 0 => .long
  | _ => .int
abbrev wsX50 : List Cond := u_ws RX5 TX5 2
theorem nmX5 : ∀ a, a < 2 → ∀ b, b < 2 → a ≠ b → (TX5 a).2.1 ≠ (TX5 b).2.1 := by decide +kernel
theorem tyX5_ok : ∀ k, k < 2 → parseFieldDescriptor (TX5 k).2.2.1 = some (tyX5 k) := by decide +kernel
abbrev cX5_init : ByteArray := prog_7_method_1_code
def yX5_init : MethodName := ⟨RX5, "<init>", "(JI)V"⟩
def RX6 : String := "LetterBroker$Inbox"
def TX6 : u_T := fun k => match k with
  | 0 => ("LetterBroker$Inbox", "size", "I", false)
  | 1 => ("LetterBroker$Inbox", "bytes", "[I", true)
  | 2 => ("LetterBroker$Inbox", "handled", "I", false)
  | 3 => ("LetterBroker$Inbox", "at", "I", false)
  | 4 => ("LetterBroker$Inbox", "end", "I", false)
  | _ => ("LetterBroker$Inbox", "wrong", "Z", false)
def tyX6 : Nat → FieldType := fun k => match k with
  | 0 => .int
  | 1 => .array .int
  | 2 => .int
  | 3 => .int
  | 4 => .int
  | _ => .boolean
abbrev wsX60 : List Cond := u_ws RX6 TX6 6
theorem nmX6 : ∀ a, a < 6 → ∀ b, b < 6 → a ≠ b → (TX6 a).2.1 ≠ (TX6 b).2.1 := by decide +kernel
theorem tyX6_ok : ∀ k, k < 6 → parseFieldDescriptor (TX6 k).2.2.1 = some (tyX6 k) := by decide +kernel
abbrev cX6_init : ByteArray := prog_8_method_1_code
def yX6_init : MethodName := ⟨RX6, "<init>", "()V"⟩
abbrev cX6_add : ByteArray := prog_8_method_2_code
def yX6_add : MethodName := ⟨RX6, "add", "(JI)V"⟩
abbrev cX6_lookForGreeting : ByteArray := prog_8_method_3_code
def yX6_lookForGreeting : MethodName := ⟨RX6, "lookForGreeting", "()I"⟩
abbrev cX6_lookForFrame : ByteArray := prog_8_method_4_code
def yX6_lookForFrame : MethodName := ⟨RX6, "lookForFrame", "()I"⟩
abbrev cX6_frameKind : ByteArray := prog_8_method_5_code
def yX6_frameKind : MethodName := ⟨RX6, "frameKind", "()I"⟩
abbrev cX6_frameChannel : ByteArray := prog_8_method_6_code
def yX6_frameChannel : MethodName := ⟨RX6, "frameChannel", "()I"⟩
abbrev cX6_unread : ByteArray := prog_8_method_7_code
def yX6_unread : MethodName := ⟨RX6, "unread", "()I"⟩
abbrev cX6_isJustRead : ByteArray := prog_8_method_8_code
def yX6_isJustRead : MethodName := ⟨RX6, "isJustRead", "()Z"⟩
abbrev cX6_readByte : ByteArray := prog_8_method_9_code
def yX6_readByte : MethodName := ⟨RX6, "readByte", "()I"⟩
abbrev cX6_readFlag : ByteArray := prog_8_method_10_code
def yX6_readFlag : MethodName := ⟨RX6, "readFlag", "()Z"⟩
abbrev cX6_readShort : ByteArray := prog_8_method_11_code
def yX6_readShort : MethodName := ⟨RX6, "readShort", "()I"⟩
abbrev cX6_readName : ByteArray := prog_8_method_12_code
def yX6_readName : MethodName := ⟨RX6, "readName", "()J"⟩
abbrev cX6_dropHandled : ByteArray := prog_8_method_13_code
def yX6_dropHandled : MethodName := ⟨RX6, "dropHandled", "()V"⟩
abbrev cX6_clear : ByteArray := prog_8_method_14_code
def yX6_clear : MethodName := ⟨RX6, "clear", "()V"⟩
def RX7 : String := "LetterBroker$Letter"
def TX7 : u_T := fun k => match k with
  | 0 => ("LetterBroker$Letter", "draft", "LLetterBroker$Draft;", true)
  | 1 => ("LetterBroker$Letter", "home", "LLetterBroker$Queue;", true)
  | 2 => ("LetterBroker$Letter", "number", "I", true)
  | 3 => ("LetterBroker$Letter", "redelivered", "Z", false)
  | _ => ("LetterBroker$Letter", "deliveredAs", "I", false)
def tyX7 : Nat → FieldType := fun k => match k with
  | 0 => .object "LetterBroker$Draft"
  | 1 => .object "LetterBroker$Queue"
  | 2 => .int
  | 3 => .boolean
  | _ => .int
abbrev wsX70 : List Cond := u_ws RX7 TX7 5
theorem nmX7 : ∀ a, a < 5 → ∀ b, b < 5 → a ≠ b → (TX7 a).2.1 ≠ (TX7 b).2.1 := by decide +kernel
theorem tyX7_ok : ∀ k, k < 5 → parseFieldDescriptor (TX7 k).2.2.1 = some (tyX7 k) := by decide +kernel
abbrev cX7_init : ByteArray := prog_9_method_1_code
def yX7_init : MethodName := ⟨RX7, "<init>", "(LLetterBroker$Draft;LLetterBroker$Queue;I)V"⟩
def RX8 : String := "LetterBroker$Office"
def TX8 : u_T := fun k => match k with
  | 0 => ("LetterBroker$Office", "exchanges", "Ljava/util/List;", true)
  | 1 => ("LetterBroker$Office", "queues", "Ljava/util/List;", true)
  | 2 => ("LetterBroker$Office", "bindings", "Ljava/util/List;", true)
  | 3 => ("LetterBroker$Office", "consumers", "Ljava/util/List;", true)
  | 4 => ("LetterBroker$Office", "latestNumber", "I", false)
  | _ => ("LetterBroker$Office", "latestSerial", "I", false)
def tyX8 : Nat → FieldType := fun k => match k with
  | 0 => .object "java/util/List"
  | 1 => .object "java/util/List"
  | 2 => .object "java/util/List"
  | 3 => .object "java/util/List"
  | 4 => .int
  | _ => .int
abbrev wsX80 : List Cond := u_ws RX8 TX8 6
theorem nmX8 : ∀ a, a < 6 → ∀ b, b < 6 → a ≠ b → (TX8 a).2.1 ≠ (TX8 b).2.1 := by decide +kernel
theorem tyX8_ok : ∀ k, k < 6 → parseFieldDescriptor (TX8 k).2.2.1 = some (tyX8 k) := by decide +kernel
abbrev cX8_init : ByteArray := prog_10_method_1_code
def yX8_init : MethodName := ⟨RX8, "<init>", "()V"⟩
abbrev cX8_exchangeNamed : ByteArray := prog_10_method_2_code
def yX8_exchangeNamed : MethodName := ⟨RX8, "exchangeNamed", "(J)LLetterBroker$Exchange;"⟩
abbrev cX8_queueNamed : ByteArray := prog_10_method_3_code
def yX8_queueNamed : MethodName := ⟨RX8, "queueNamed", "(J)LLetterBroker$Queue;"⟩
abbrev cX8_bindingAt : ByteArray := prog_10_method_4_code
def yX8_bindingAt : MethodName := ⟨RX8, "bindingAt", "(LLetterBroker$Queue;LLetterBroker$Exchange;J)I"⟩
abbrev cX8_consumerAt : ByteArray := prog_10_method_5_code
def yX8_consumerAt : MethodName := ⟨RX8, "consumerAt", "(LLetterBroker$Channel;J)I"⟩
abbrev cX8_consumersOf : ByteArray := prog_10_method_6_code
def yX8_consumersOf : MethodName := ⟨RX8, "consumersOf", "(LLetterBroker$Queue;)I"⟩
abbrev cX8_bindingsOf : ByteArray := prog_10_method_7_code
def yX8_bindingsOf : MethodName := ⟨RX8, "bindingsOf", "(LLetterBroker$Queue;)I"⟩
abbrev cX8_isBound : ByteArray := prog_10_method_8_code
def yX8_isBound : MethodName := ⟨RX8, "isBound", "(LLetterBroker$Exchange;)Z"⟩
abbrev cX8_lettersThatWait : ByteArray := prog_10_method_9_code
def yX8_lettersThatWait : MethodName := ⟨RX8, "lettersThatWait", "()I"⟩
abbrev cX8_addConsumer : ByteArray := prog_10_method_10_code
def yX8_addConsumer : MethodName := ⟨RX8, "addConsumer", "(LLetterBroker$Queue;LLetterBroker$Channel;JZ)V"⟩
abbrev cX8_removeConsumersOn : ByteArray := prog_10_method_11_code
def yX8_removeConsumersOn : MethodName := ⟨RX8, "removeConsumersOn", "(LLetterBroker$Channel;)V"⟩
abbrev cX8_remove : ByteArray := prog_10_method_12_code
def yX8_remove : MethodName := ⟨RX8, "remove", "(LLetterBroker$Exchange;)V"⟩
abbrev cX8_remove_ : ByteArray := prog_10_method_13_code
def yX8_remove_ : MethodName := ⟨RX8, "remove", "(LLetterBroker$Queue;)V"⟩
abbrev cX8_nextConsumerOf : ByteArray := prog_10_method_14_code
def yX8_nextConsumerOf : MethodName := ⟨RX8, "nextConsumerOf", "(LLetterBroker$Queue;)LLetterBroker$Consumer;"⟩
abbrev cX8_placesReachedBy : ByteArray := prog_10_method_15_code
def yX8_placesReachedBy : MethodName := ⟨RX8, "placesReachedBy", "(LLetterBroker$Draft;)I"⟩
abbrev cX8_putInto : ByteArray := prog_10_method_16_code
def yX8_putInto : MethodName := ⟨RX8, "putInto", "(ILLetterBroker$Draft;)V"⟩
abbrev cX8_reaches : ByteArray := prog_10_method_17_code
def yX8_reaches : MethodName := ⟨RX8, "reaches", "(LLetterBroker$Draft;LLetterBroker$Queue;)Z"⟩
def RX9 : String := "LetterBroker$Outbox"
def TX9 : u_T := fun k => match k with
  | 0 => ("LetterBroker$Outbox", "size", "I", false)
  | 1 => ("LetterBroker$Outbox", "ring", "[I", true)
  | 2 => ("LetterBroker$Outbox", "first", "I", false)
  | 3 => ("LetterBroker$Outbox", "lengthAt", "I", false)
  | _ => ("LetterBroker$Outbox", "sizeAtPayload", "I", false)
def tyX9 : Nat → FieldType := fun k => match k with
  | 0 => .int
  | 1 => .array .int
  | 2 => .int
  | 3 => .int
  | _ => .int
abbrev wsX90 : List Cond := u_ws RX9 TX9 5
theorem nmX9 : ∀ a, a < 5 → ∀ b, b < 5 → a ≠ b → (TX9 a).2.1 ≠ (TX9 b).2.1 := by decide +kernel
theorem tyX9_ok : ∀ k, k < 5 → parseFieldDescriptor (TX9 k).2.2.1 = some (tyX9 k) := by decide +kernel
abbrev cX9_init : ByteArray := prog_11_method_1_code
def yX9_init : MethodName := ⟨RX9, "<init>", "()V"⟩
abbrev cX9_take : ByteArray := prog_11_method_2_code
def yX9_take : MethodName := ⟨RX9, "take", "()I"⟩
abbrev cX9_put : ByteArray := prog_11_method_3_code
def yX9_put : MethodName := ⟨RX9, "put", "(I)V"⟩
abbrev cX9_putShort : ByteArray := prog_11_method_4_code
def yX9_putShort : MethodName := ⟨RX9, "putShort", "(I)V"⟩
abbrev cX9_putName : ByteArray := prog_11_method_5_code
def yX9_putName : MethodName := ⟨RX9, "putName", "(J)V"⟩
abbrev cX9_begin : ByteArray := prog_11_method_6_code
def yX9_begin : MethodName := ⟨RX9, "begin", "(II)V"⟩
abbrev cX9_end : ByteArray := prog_11_method_7_code
def yX9_end : MethodName := ⟨RX9, "end", "()V"⟩
abbrev cX9_tell : ByteArray := prog_11_method_8_code
def yX9_tell : MethodName := ⟨RX9, "tell", "(II)V"⟩
abbrev cX9_tellMistake : ByteArray := prog_11_method_9_code
def yX9_tellMistake : MethodName := ⟨RX9, "tellMistake", "(III)V"⟩
abbrev cX9_putLetter : ByteArray := prog_11_method_10_code
def yX9_putLetter : MethodName := ⟨RX9, "putLetter", "(LLetterBroker$Letter;)V"⟩
abbrev cX9_putContent : ByteArray := prog_11_method_11_code
def yX9_putContent : MethodName := ⟨RX9, "putContent", "(ILLetterBroker$Draft;)V"⟩
def RX10 : String := "LetterBroker$Queue"
def TX10 : u_T := fun k => match k with
  | 0 => ("LetterBroker$Queue", "name", "J", true)
  | 1 => ("LetterBroker$Queue", "waiting", "Ljava/util/List;", true)
  | _ => ("LetterBroker$Queue", "latestServed", "I", false)
def tyX10 : Nat → FieldType := fun k => match k with
  | 0 => .long
  | 1 => .object "java/util/List"
  | _ => .int
abbrev wsX100 : List Cond := u_ws RX10 TX10 3
theorem nmX10 : ∀ a, a < 3 → ∀ b, b < 3 → a ≠ b → (TX10 a).2.1 ≠ (TX10 b).2.1 := by decide +kernel
theorem tyX10_ok : ∀ k, k < 3 → parseFieldDescriptor (TX10 k).2.2.1 = some (tyX10 k) := by decide +kernel
abbrev cX10_init : ByteArray := prog_12_method_1_code
def yX10_init : MethodName := ⟨RX10, "<init>", "(J)V"⟩
abbrev cX10_takeBack : ByteArray := prog_12_method_2_code
def yX10_takeBack : MethodName := ⟨RX10, "takeBack", "(LLetterBroker$Letter;)V"⟩
def RX11 : String := "LetterBroker"
def TX11 : u_T := fun k => match k with
  | 0 => ("LetterBroker", "inbox", "LLetterBroker$Inbox;", true)
  | 1 => ("LetterBroker", "outbox", "LLetterBroker$Outbox;", true)
  | 2 => ("LetterBroker", "office", "LLetterBroker$Office;", true)
  | 3 => ("LetterBroker", "channels", "[LLetterBroker$Channel;", true)
  | _ => ("LetterBroker", "lineState", "I", false)
def tyX11 : Nat → FieldType := fun k => match k with
  | 0 => .object "LetterBroker$Inbox"
  | 1 => .object "LetterBroker$Outbox"
  | 2 => .object "LetterBroker$Office"
  | 3 => .array (.object "LetterBroker$Channel")
  | _ => .int
abbrev wsX110 : List Cond := u_ws RX11 TX11 5
theorem nmX11 : ∀ a, a < 5 → ∀ b, b < 5 → a ≠ b → (TX11 a).2.1 ≠ (TX11 b).2.1 := by decide +kernel
theorem tyX11_ok : ∀ k, k < 5 → parseFieldDescriptor (TX11 k).2.2.1 = some (tyX11 k) := by decide +kernel
abbrev cX11_init : ByteArray := prog_1_method_1_code
def yX11_init : MethodName := ⟨RX11, "<init>", "()V"⟩
abbrev cX11_send : ByteArray := prog_1_method_2_code
def yX11_send : MethodName := ⟨RX11, "send", "(JI)I"⟩
abbrev cX11_step : ByteArray := prog_1_method_3_code
def yX11_step : MethodName := ⟨RX11, "step", "()I"⟩
abbrev cX11_ready : ByteArray := prog_1_method_4_code
def yX11_ready : MethodName := ⟨RX11, "ready", "()I"⟩
abbrev cX11_receive : ByteArray := prog_1_method_5_code
def yX11_receive : MethodName := ⟨RX11, "receive", "()I"⟩
abbrev cX11_line : ByteArray := prog_1_method_6_code
def yX11_line : MethodName := ⟨RX11, "line", "()I"⟩
abbrev cX11_connect : ByteArray := prog_1_method_7_code
def yX11_connect : MethodName := ⟨RX11, "connect", "()Z"⟩
abbrev cX11_channel : ByteArray := prog_1_method_8_code
def yX11_channel : MethodName := ⟨RX11, "channel", "(II)I"⟩
abbrev cX11_queue : ByteArray := prog_1_method_9_code
def yX11_queue : MethodName := ⟨RX11, "queue", "(II)I"⟩
abbrev cX11_channelNumbered : ByteArray := prog_1_method_10_code
def yX11_channelNumbered : MethodName := ⟨RX11, "channelNumbered", "(I)LLetterBroker$Channel;"⟩
abbrev cX11_greet : ByteArray := prog_1_method_11_code
def yX11_greet : MethodName := ⟨RX11, "greet", "()I"⟩
abbrev cX11_doLineMethod : ByteArray := prog_1_method_12_code
def yX11_doLineMethod : MethodName := ⟨RX11, "doLineMethod", "(I)I"⟩
abbrev cX11_lineMethodInTurn : ByteArray := prog_1_method_13_code
def yX11_lineMethodInTurn : MethodName := ⟨RX11, "lineMethodInTurn", "()I"⟩
abbrev cX11_settleMistake : ByteArray := prog_1_method_14_code
def yX11_settleMistake : MethodName := ⟨RX11, "settleMistake", "(I)V"⟩
abbrev cX11_shutLine : ByteArray := prog_1_method_15_code
def yX11_shutLine : MethodName := ⟨RX11, "shutLine", "()V"⟩
abbrev cX11_leaveChannel : ByteArray := prog_1_method_16_code
def yX11_leaveChannel : MethodName := ⟨RX11, "leaveChannel", "(LLetterBroker$Channel;I)V"⟩
abbrev cX11_handleFrame : ByteArray := prog_1_method_17_code
def yX11_handleFrame : MethodName := ⟨RX11, "handleFrame", "()I"⟩
abbrev cX11_handleOnLost : ByteArray := prog_1_method_18_code
def yX11_handleOnLost : MethodName := ⟨RX11, "handleOnLost", "(LLetterBroker$Channel;I)I"⟩
abbrev cX11_doMethod : ByteArray := prog_1_method_19_code
def yX11_doMethod : MethodName := ⟨RX11, "doMethod", "(LLetterBroker$Channel;I)I"⟩
abbrev cX11_openChannel : ByteArray := prog_1_method_20_code
def yX11_openChannel : MethodName := ⟨RX11, "openChannel", "(LLetterBroker$Channel;)I"⟩
abbrev cX11_closeChannel : ByteArray := prog_1_method_21_code
def yX11_closeChannel : MethodName := ⟨RX11, "closeChannel", "(LLetterBroker$Channel;)I"⟩
abbrev cX11_setFlow : ByteArray := prog_1_method_22_code
def yX11_setFlow : MethodName := ⟨RX11, "setFlow", "(LLetterBroker$Channel;)I"⟩
abbrev cX11_setLimit : ByteArray := prog_1_method_23_code
def yX11_setLimit : MethodName := ⟨RX11, "setLimit", "(LLetterBroker$Channel;)I"⟩
abbrev cX11_declareExchange : ByteArray := prog_1_method_24_code
def yX11_declareExchange : MethodName := ⟨RX11, "declareExchange", "(LLetterBroker$Channel;)I"⟩
abbrev cX11_deleteExchange : ByteArray := prog_1_method_25_code
def yX11_deleteExchange : MethodName := ⟨RX11, "deleteExchange", "(LLetterBroker$Channel;)I"⟩
abbrev cX11_declareQueue : ByteArray := prog_1_method_26_code
def yX11_declareQueue : MethodName := ⟨RX11, "declareQueue", "(LLetterBroker$Channel;)I"⟩
abbrev cX11_changeBinding : ByteArray := prog_1_method_27_code
def yX11_changeBinding : MethodName := ⟨RX11, "changeBinding", "(LLetterBroker$Channel;I)I"⟩
abbrev cX11_purge : ByteArray := prog_1_method_28_code
def yX11_purge : MethodName := ⟨RX11, "purge", "(LLetterBroker$Channel;)I"⟩
abbrev cX11_deleteQueue : ByteArray := prog_1_method_29_code
def yX11_deleteQueue : MethodName := ⟨RX11, "deleteQueue", "(LLetterBroker$Channel;)I"⟩
abbrev cX11_consume : ByteArray := prog_1_method_30_code
def yX11_consume : MethodName := ⟨RX11, "consume", "(LLetterBroker$Channel;)I"⟩
abbrev cX11_cancel : ByteArray := prog_1_method_31_code
def yX11_cancel : MethodName := ⟨RX11, "cancel", "(LLetterBroker$Channel;)I"⟩
abbrev cX11_publish : ByteArray := prog_1_method_32_code
def yX11_publish : MethodName := ⟨RX11, "publish", "(LLetterBroker$Channel;)I"⟩
abbrev cX11_takeHead : ByteArray := prog_1_method_33_code
def yX11_takeHead : MethodName := ⟨RX11, "takeHead", "(LLetterBroker$Channel;LLetterBroker$Draft;)I"⟩
abbrev cX11_takeBody : ByteArray := prog_1_method_34_code
def yX11_takeBody : MethodName := ⟨RX11, "takeBody", "(LLetterBroker$Channel;LLetterBroker$Draft;)I"⟩
abbrev cX11_complete : ByteArray := prog_1_method_35_code
def yX11_complete : MethodName := ⟨RX11, "complete", "(LLetterBroker$Channel;LLetterBroker$Draft;)I"⟩
abbrev cX11_post : ByteArray := prog_1_method_36_code
def yX11_post : MethodName := ⟨RX11, "post", "(LLetterBroker$Channel;LLetterBroker$Draft;)I"⟩
abbrev cX11_lettersInAll : ByteArray := prog_1_method_37_code
def yX11_lettersInAll : MethodName := ⟨RX11, "lettersInAll", "()I"⟩
abbrev cX11_sendReturned : ByteArray := prog_1_method_38_code
def yX11_sendReturned : MethodName := ⟨RX11, "sendReturned", "(LLetterBroker$Channel;LLetterBroker$Draft;)V"⟩
abbrev cX11_get : ByteArray := prog_1_method_39_code
def yX11_get : MethodName := ⟨RX11, "get", "(LLetterBroker$Channel;)I"⟩
abbrev cX11_deliverAll : ByteArray := prog_1_method_40_code
def yX11_deliverAll : MethodName := ⟨RX11, "deliverAll", "()V"⟩
abbrev cX11_deliverNext : ByteArray := prog_1_method_41_code
def yX11_deliverNext : MethodName := ⟨RX11, "deliverNext", "()Z"⟩
abbrev cX11_deliver : ByteArray := prog_1_method_42_code
def yX11_deliver : MethodName := ⟨RX11, "deliver", "(LLetterBroker$Queue;LLetterBroker$Consumer;)V"⟩
abbrev cX11_acknowledge : ByteArray := prog_1_method_43_code
def yX11_acknowledge : MethodName := ⟨RX11, "acknowledge", "(LLetterBroker$Channel;)I"⟩
abbrev cX11_reject : ByteArray := prog_1_method_44_code
def yX11_reject : MethodName := ⟨RX11, "reject", "(LLetterBroker$Channel;)I"⟩
abbrev cX11_refuse : ByteArray := prog_1_method_45_code
def yX11_refuse : MethodName := ⟨RX11, "refuse", "(LLetterBroker$Channel;)I"⟩
abbrev cX11_settle : ByteArray := prog_1_method_46_code
def yX11_settle : MethodName := ⟨RX11, "settle", "(LLetterBroker$Channel;IZZ)I"⟩
abbrev cX11_recover : ByteArray := prog_1_method_47_code
def yX11_recover : MethodName := ⟨RX11, "recover", "(LLetterBroker$Channel;)I"⟩
abbrev cX11_transact : ByteArray := prog_1_method_48_code
def yX11_transact : MethodName := ⟨RX11, "transact", "(LLetterBroker$Channel;)I"⟩
abbrev cX11_keep : ByteArray := prog_1_method_49_code
def yX11_keep : MethodName := ⟨RX11, "keep", "(LLetterBroker$Channel;LLetterBroker$Deed;)I"⟩
abbrev cX11_commit : ByteArray := prog_1_method_50_code
def yX11_commit : MethodName := ⟨RX11, "commit", "(LLetterBroker$Channel;)I"⟩
abbrev cX11_rollBack : ByteArray := prog_1_method_51_code
def yX11_rollBack : MethodName := ⟨RX11, "rollBack", "(LLetterBroker$Channel;)I"⟩
def RX12 : String := "LetterBrokerModel"
def TX12 : u_T := fun k => match k with
  | 0 => ("LetterBrokerModel", "line", "I", false)
  | 1 => ("LetterBrokerModel", "in", "[I", true)
  | 2 => ("LetterBrokerModel", "inCount", "I", false)
  | 3 => ("LetterBrokerModel", "out", "[I", true)
  | 4 => ("LetterBrokerModel", "outCount", "I", false)
  | 5 => ("LetterBrokerModel", "exchanges", "I", false)
  | 6 => ("LetterBrokerModel", "exchangeNames", "[J", true)
  | 7 => ("LetterBrokerModel", "kinds", "[I", true)
  | 8 => ("LetterBrokerModel", "queues", "I", false)
  | 9 => ("LetterBrokerModel", "queueCount", "I", false)
  | 10 => ("LetterBrokerModel", "queueNames", "[J", true)
  | 11 => ("LetterBrokerModel", "queueNumbers", "[I", true)
  | 12 => ("LetterBrokerModel", "latest", "[I", true)
  | 13 => ("LetterBrokerModel", "bindings", "I", false)
  | 14 => ("LetterBrokerModel", "boundQueues", "[J", true)
  | 15 => ("LetterBrokerModel", "boundExchanges", "[J", true)
  | 16 => ("LetterBrokerModel", "boundKeys", "[J", true)
  | 17 => ("LetterBrokerModel", "consumers", "I", false)
  | 18 => ("LetterBrokerModel", "came", "I", false)
  | 19 => ("LetterBrokerModel", "consumerNumbers", "[I", true)
  | 20 => ("LetterBrokerModel", "consumerChannels", "[I", true)
  | 21 => ("LetterBrokerModel", "consumerTags", "[J", true)
  | 22 => ("LetterBrokerModel", "consumerQueues", "[I", true)
  | 23 => ("LetterBrokerModel", "consumerFree", "[Z", true)
  | 24 => ("LetterBrokerModel", "letters", "I", false)
  | 25 => ("LetterBrokerModel", "numbered", "I", false)
  | 26 => ("LetterBrokerModel", "letterNumbers", "[I", true)
  | 27 => ("LetterBrokerModel", "letterQueues", "[I", true)
  | 28 => ("LetterBrokerModel", "holders", "[I", true)
  | 29 => ("LetterBrokerModel", "tags", "[I", true)
  | 30 => ("LetterBrokerModel", "again", "[Z", true)
  | 31 => ("LetterBrokerModel", "letterExchanges", "[J", true)
  | 32 => ("LetterBrokerModel", "letterKeys", "[J", true)
  | 33 => ("LetterBrokerModel", "sizes", "[I", true)
  | 34 => ("LetterBrokerModel", "contents", "[J", true)
  | 35 => ("LetterBrokerModel", "states", "[I", true)
  | 36 => ("LetterBrokerModel", "limits", "[I", true)
  | 37 => ("LetterBrokerModel", "flows", "[Z", true)
  | 38 => ("LetterBrokerModel", "counts", "[I", true)
  | 39 => ("LetterBrokerModel", "transacted", "[Z", true)
  | 40 => ("LetterBrokerModel", "due", "[I", true)
  | 41 => ("LetterBrokerModel", "comingExchanges", "[J", true)
  | 42 => ("LetterBrokerModel", "comingKeys", "[J", true)
  | 43 => ("LetterBrokerModel", "comingMust", "[Z", true)
  | 44 => ("LetterBrokerModel", "comingSizes", "[I", true)
  | 45 => ("LetterBrokerModel", "comingLacks", "[I", true)
  | 46 => ("LetterBrokerModel", "comingContents", "[J", true)
  | 47 => ("LetterBrokerModel", "keptCounts", "[I", true)
  | 48 => ("LetterBrokerModel", "keptKinds", "[I", true)
  | 49 => ("LetterBrokerModel", "keptOnes", "[J", true)
  | 50 => ("LetterBrokerModel", "keptTwos", "[J", true)
  | 51 => ("LetterBrokerModel", "keptAll", "[Z", true)
  | 52 => ("LetterBrokerModel", "keptSizes", "[I", true)
  | 53 => ("LetterBrokerModel", "keptContents", "[J", true)
  | 54 => ("LetterBrokerModel", "channel", "I", false)
  | 55 => ("LetterBrokerModel", "at", "I", false)
  | 56 => ("LetterBrokerModel", "end", "I", false)
  | 57 => ("LetterBrokerModel", "broken", "Z", false)
  | 58 => ("LetterBrokerModel", "keyWords", "[J", true)
  | 59 => ("LetterBrokerModel", "patternWords", "[J", true)
  | 60 => ("LetterBrokerModel", "fitted", "[Z", true)
  | _ => ("LetterBrokerModel", "begun", "I", false)
def tyX12 : Nat → FieldType := fun k => match k with
  | 0 => .int
  | 1 => .array .int
  | 2 => .int
  | 3 => .array .int
  | 4 => .int
  | 5 => .int
  | 6 => .array .long
  | 7 => .array .int
  | 8 => .int
  | 9 => .int
  | 10 => .array .long
  | 11 => .array .int
  | 12 => .array .int
  | 13 => .int
  | 14 => .array .long
  | 15 => .array .long
  | 16 => .array .long
  | 17 => .int
  | 18 => .int
  | 19 => .array .int
  | 20 => .array .int
  | 21 => .array .long
  | 22 => .array .int
  | 23 => .array .boolean
  | 24 => .int
  | 25 => .int
  | 26 => .array .int
  | 27 => .array .int
  | 28 => .array .int
  | 29 => .array .int
  | 30 => .array .boolean
  | 31 => .array .long
  | 32 => .array .long
  | 33 => .array .int
  | 34 => .array .long
  | 35 => .array .int
  | 36 => .array .int
  | 37 => .array .boolean
  | 38 => .array .int
  | 39 => .array .boolean
  | 40 => .array .int
  | 41 => .array .long
  | 42 => .array .long
  | 43 => .array .boolean
  | 44 => .array .int
  | 45 => .array .int
  | 46 => .array .long
  | 47 => .array .int
  | 48 => .array .int
  | 49 => .array .long
  | 50 => .array .long
  | 51 => .array .boolean
  | 52 => .array .int
  | 53 => .array .long
  | 54 => .int
  | 55 => .int
  | 56 => .int
  | 57 => .boolean
  | 58 => .array .long
  | 59 => .array .long
  | 60 => .array .boolean
  | _ => .int
abbrev wsX120 : List Cond := u_ws RX12 TX12 62
theorem nmX12 : ∀ a, a < 62 → ∀ b, b < 62 → a ≠ b → (TX12 a).2.1 ≠ (TX12 b).2.1 := by decide +kernel
theorem tyX12_ok : ∀ k, k < 62 → parseFieldDescriptor (TX12 k).2.2.1 = some (tyX12 k) := by decide +kernel
abbrev cX12_init : ByteArray := prog_14_method_1_code
def yX12_init : MethodName := ⟨RX12, "<init>", "()V"⟩
abbrev cX12_put : ByteArray := prog_14_method_3_code
def yX12_put : MethodName := ⟨RX12, "put", "(I)V"⟩
abbrev cX12_length : ByteArray := prog_14_method_4_code
def yX12_length : MethodName := ⟨RX12, "length", "(J)I"⟩
abbrev cX12_begin : ByteArray := prog_14_method_5_code
def yX12_begin : MethodName := ⟨RX12, "begin", "(II)V"⟩
abbrev cX12_finish : ByteArray := prog_14_method_6_code
def yX12_finish : MethodName := ⟨RX12, "finish", "()V"⟩
abbrev cX12_method : ByteArray := prog_14_method_7_code
def yX12_method : MethodName := ⟨RX12, "method", "(III)V"⟩
abbrev cX12_say : ByteArray := prog_14_method_8_code
def yX12_say : MethodName := ⟨RX12, "say", "(III)V"⟩
abbrev cX12_putShort : ByteArray := prog_14_method_9_code
def yX12_putShort : MethodName := ⟨RX12, "putShort", "(I)V"⟩
abbrev cX12_putName : ByteArray := prog_14_method_10_code
def yX12_putName : MethodName := ⟨RX12, "putName", "(J)V"⟩
abbrev cX12_putLetter : ByteArray := prog_14_method_11_code
def yX12_putLetter : MethodName := ⟨RX12, "putLetter", "(IIJ)V"⟩
abbrev cX12_waiting : ByteArray := prog_14_method_12_code
def yX12_waiting : MethodName := ⟨RX12, "waiting", "(I)I"⟩
abbrev cX12_held : ByteArray := prog_14_method_13_code
def yX12_held : MethodName := ⟨RX12, "held", "(I)I"⟩
abbrev cX12_firstOf : ByteArray := prog_14_method_14_code
def yX12_firstOf : MethodName := ⟨RX12, "firstOf", "(I)I"⟩
abbrev cX12_moveLetter : ByteArray := prog_14_method_15_code
def yX12_moveLetter : MethodName := ⟨RX12, "moveLetter", "(II)V"⟩
abbrev cX12_removeLetter : ByteArray := prog_14_method_16_code
def yX12_removeLetter : MethodName := ⟨RX12, "removeLetter", "(I)V"⟩
abbrev cX12_isThere : ByteArray := prog_14_method_17_code
def yX12_isThere : MethodName := ⟨RX12, "isThere", "(I)Z"⟩
abbrev cX12_goesBack : ByteArray := prog_14_method_18_code
def yX12_goesBack : MethodName := ⟨RX12, "goesBack", "(I)Z"⟩
abbrev cX12_allBack : ByteArray := prog_14_method_19_code
def yX12_allBack : MethodName := ⟨RX12, "allBack", "(I)V"⟩
abbrev cX12_endChannel : ByteArray := prog_14_method_20_code
def yX12_endChannel : MethodName := ⟨RX12, "endChannel", "(II)V"⟩
abbrev cX12_removeConsumer : ByteArray := prog_14_method_21_code
def yX12_removeConsumer : MethodName := ⟨RX12, "removeConsumer", "(I)V"⟩
abbrev cX12_shut : ByteArray := prog_14_method_22_code
def yX12_shut : MethodName := ⟨RX12, "shut", "()V"⟩
abbrev cX12_hard : ByteArray := prog_14_method_23_code
def yX12_hard : MethodName := ⟨RX12, "hard", "(I)V"⟩
abbrev cX12_soft : ByteArray := prog_14_method_24_code
def yX12_soft : MethodName := ⟨RX12, "soft", "(II)V"⟩
abbrev cX12_exchangeOf : ByteArray := prog_14_method_25_code
def yX12_exchangeOf : MethodName := ⟨RX12, "exchangeOf", "(J)I"⟩
abbrev cX12_queueOf : ByteArray := prog_14_method_26_code
def yX12_queueOf : MethodName := ⟨RX12, "queueOf", "(J)I"⟩
abbrev cX12_bindingOf : ByteArray := prog_14_method_27_code
def yX12_bindingOf : MethodName := ⟨RX12, "bindingOf", "(JJJ)I"⟩
abbrev cX12_removeBinding : ByteArray := prog_14_method_28_code
def yX12_removeBinding : MethodName := ⟨RX12, "removeBinding", "(I)V"⟩
abbrev cX12_split : ByteArray := prog_14_method_29_code
def yX12_split : MethodName := ⟨RX12, "split", "(J[J)I"⟩
abbrev cX12_fits : ByteArray := prog_14_method_30_code
def yX12_fits : MethodName := ⟨RX12, "fits", "(JJ)Z"⟩
abbrev cX12_fitsAt : ByteArray := prog_14_method_31_code
def yX12_fitsAt : MethodName := ⟨RX12, "fitsAt", "(III)Z"⟩
abbrev cX12_reaches : ByteArray := prog_14_method_32_code
def yX12_reaches : MethodName := ⟨RX12, "reaches", "(IIJ)Z"⟩
abbrev cX12_route : ByteArray := prog_14_method_33_code
def yX12_route : MethodName := ⟨RX12, "route", "(IJJZIJ)Z"⟩
abbrev cX12_complete : ByteArray := prog_14_method_34_code
def yX12_complete : MethodName := ⟨RX12, "complete", "(I)V"⟩
abbrev cX12_isMeant : ByteArray := prog_14_method_35_code
def yX12_isMeant : MethodName := ⟨RX12, "isMeant", "(IIIZ)Z"⟩
abbrev cX12_settle : ByteArray := prog_14_method_36_code
def yX12_settle : MethodName := ⟨RX12, "settle", "(IIIZ)V"⟩
abbrev cX12_settleOrKeep : ByteArray := prog_14_method_37_code
def yX12_settleOrKeep : MethodName := ⟨RX12, "settleOrKeep", "(IIIZ)V"⟩
abbrev cX12_commit : ByteArray := prog_14_method_38_code
def yX12_commit : MethodName := ⟨RX12, "commit", "(I)V"⟩
abbrev cX12_canTake : ByteArray := prog_14_method_39_code
def yX12_canTake : MethodName := ⟨RX12, "canTake", "(I)Z"⟩
abbrev cX12_nextConsumer : ByteArray := prog_14_method_40_code
def yX12_nextConsumer : MethodName := ⟨RX12, "nextConsumer", "(I)I"⟩
abbrev cX12_deliver : ByteArray := prog_14_method_41_code
def yX12_deliver : MethodName := ⟨RX12, "deliver", "()Z"⟩
abbrev cX12_tell : ByteArray := prog_14_method_42_code
def yX12_tell : MethodName := ⟨RX12, "tell", "(II)V"⟩
abbrev cX12_take : ByteArray := prog_14_method_43_code
def yX12_take : MethodName := ⟨RX12, "take", "(IIZ)V"⟩
abbrev cX12_next : ByteArray := prog_14_method_44_code
def yX12_next : MethodName := ⟨RX12, "next", "()I"⟩
abbrev cX12_nextTruth : ByteArray := prog_14_method_45_code
def yX12_nextTruth : MethodName := ⟨RX12, "nextTruth", "()Z"⟩
abbrev cX12_nextShort : ByteArray := prog_14_method_46_code
def yX12_nextShort : MethodName := ⟨RX12, "nextShort", "()I"⟩
abbrev cX12_nextName : ByteArray := prog_14_method_47_code
def yX12_nextName : MethodName := ⟨RX12, "nextName", "()J"⟩
abbrev cX12_isJust : ByteArray := prog_14_method_48_code
def yX12_isJust : MethodName := ⟨RX12, "isJust", "()Z"⟩
abbrev cX12_exchangeMethod : ByteArray := prog_14_method_49_code
def yX12_exchangeMethod : MethodName := ⟨RX12, "exchangeMethod", "(I)V"⟩
abbrev cX12_hasBindings : ByteArray := prog_14_method_50_code
def yX12_hasBindings : MethodName := ⟨RX12, "hasBindings", "(J)Z"⟩
abbrev cX12_removeExchange : ByteArray := prog_14_method_51_code
def yX12_removeExchange : MethodName := ⟨RX12, "removeExchange", "(I)V"⟩
abbrev cX12_consumersOf : ByteArray := prog_14_method_52_code
def yX12_consumersOf : MethodName := ⟨RX12, "consumersOf", "(I)I"⟩
abbrev cX12_declareQueue : ByteArray := prog_14_method_53_code
def yX12_declareQueue : MethodName := ⟨RX12, "declareQueue", "()V"⟩
abbrev cX12_bind : ByteArray := prog_14_method_54_code
def yX12_bind : MethodName := ⟨RX12, "bind", "(I)V"⟩
abbrev cX12_purge : ByteArray := prog_14_method_55_code
def yX12_purge : MethodName := ⟨RX12, "purge", "(I)I"⟩
abbrev cX12_emptyQueue : ByteArray := prog_14_method_56_code
def yX12_emptyQueue : MethodName := ⟨RX12, "emptyQueue", "(I)V"⟩
abbrev cX12_removeQueue : ByteArray := prog_14_method_57_code
def yX12_removeQueue : MethodName := ⟨RX12, "removeQueue", "(I)V"⟩
abbrev cX12_queueMethod : ByteArray := prog_14_method_58_code
def yX12_queueMethod : MethodName := ⟨RX12, "queueMethod", "(I)V"⟩
abbrev cX12_hasTag : ByteArray := prog_14_method_59_code
def yX12_hasTag : MethodName := ⟨RX12, "hasTag", "(IJ)Z"⟩
abbrev cX12_consume : ByteArray := prog_14_method_60_code
def yX12_consume : MethodName := ⟨RX12, "consume", "()V"⟩
abbrev cX12_cancel : ByteArray := prog_14_method_61_code
def yX12_cancel : MethodName := ⟨RX12, "cancel", "()V"⟩
abbrev cX12_publish : ByteArray := prog_14_method_62_code
def yX12_publish : MethodName := ⟨RX12, "publish", "()V"⟩
abbrev cX12_get : ByteArray := prog_14_method_63_code
def yX12_get : MethodName := ⟨RX12, "get", "()V"⟩
abbrev cX12_letterMethod : ByteArray := prog_14_method_64_code
def yX12_letterMethod : MethodName := ⟨RX12, "letterMethod", "(I)V"⟩
abbrev cX12_transactionMethod : ByteArray := prog_14_method_65_code
def yX12_transactionMethod : MethodName := ⟨RX12, "transactionMethod", "(I)V"⟩
abbrev cX12_channelMethod : ByteArray := prog_14_method_66_code
def yX12_channelMethod : MethodName := ⟨RX12, "channelMethod", "(I)V"⟩
abbrev cX12_isMethod : ByteArray := prog_14_method_67_code
def yX12_isMethod : MethodName := ⟨RX12, "isMethod", "(II)Z"⟩
abbrev cX12_lineMethod : ByteArray := prog_14_method_68_code
def yX12_lineMethod : MethodName := ⟨RX12, "lineMethod", "(II)V"⟩
abbrev cX12_doMethod : ByteArray := prog_14_method_69_code
def yX12_doMethod : MethodName := ⟨RX12, "doMethod", "()V"⟩
abbrev cX12_head : ByteArray := prog_14_method_70_code
def yX12_head : MethodName := ⟨RX12, "head", "()V"⟩
abbrev cX12_body : ByteArray := prog_14_method_71_code
def yX12_body : MethodName := ⟨RX12, "body", "()V"⟩
abbrev cX12_frame : ByteArray := prog_14_method_72_code
def yX12_frame : MethodName := ⟨RX12, "frame", "(I)V"⟩
abbrev cX12_send : ByteArray := prog_14_method_73_code
def yX12_send : MethodName := ⟨RX12, "send", "(JI)I"⟩
abbrev cX12_drop : ByteArray := prog_14_method_74_code
def yX12_drop : MethodName := ⟨RX12, "drop", "(I)V"⟩
abbrev cX12_greet : ByteArray := prog_14_method_75_code
def yX12_greet : MethodName := ⟨RX12, "greet", "()I"⟩
abbrev cX12_frameLength : ByteArray := prog_14_method_76_code
def yX12_frameLength : MethodName := ⟨RX12, "frameLength", "()I"⟩
abbrev cX12_step : ByteArray := prog_14_method_77_code
def yX12_step : MethodName := ⟨RX12, "step", "()I"⟩
abbrev cX12_ready : ByteArray := prog_14_method_78_code
def yX12_ready : MethodName := ⟨RX12, "ready", "()I"⟩
abbrev cX12_receive : ByteArray := prog_14_method_79_code
def yX12_receive : MethodName := ⟨RX12, "receive", "()I"⟩
abbrev cX12_line : ByteArray := prog_14_method_80_code
def yX12_line : MethodName := ⟨RX12, "line", "()I"⟩
abbrev cX12_connect : ByteArray := prog_14_method_81_code
def yX12_connect : MethodName := ⟨RX12, "connect", "()Z"⟩
abbrev cX12_channel : ByteArray := prog_14_method_82_code
def yX12_channel : MethodName := ⟨RX12, "channel", "(II)I"⟩
abbrev cX12_queue : ByteArray := prog_14_method_83_code
def yX12_queue : MethodName := ⟨RX12, "queue", "(II)I"⟩
def RJx145de : String := "java/io/Serializable"
def TJx145de : u_T := fun k => match k with
  | _ => ("", "", "", false)
def tyJx145de : Nat → FieldType := fun k => match k with
  | _ => .int
abbrev wsJx145de0 : List Cond := u_ws RJx145de TJx145de 0
theorem nmJx145de : ∀ a, a < 0 → ∀ b, b < 0 → a ≠ b → (TJx145de a).2.1 ≠ (TJx145de b).2.1 := by decide +kernel
theorem tyJx145de_ok : ∀ k, k < 0 → parseFieldDescriptor (TJx145de k).2.2.1 = some (tyJx145de k) := by decide +kernel
def RJx8e188 : String := "java/lang/Cloneable"
def TJx8e188 : u_T := fun k => match k with
  | _ => ("", "", "", false)
def tyJx8e188 : Nat → FieldType := fun k => match k with
  | _ => .int
abbrev wsJx8e1880 : List Cond := u_ws RJx8e188 TJx8e188 0
theorem nmJx8e188 : ∀ a, a < 0 → ∀ b, b < 0 → a ≠ b → (TJx8e188 a).2.1 ≠ (TJx8e188 b).2.1 := by decide +kernel
theorem tyJx8e188_ok : ∀ k, k < 0 → parseFieldDescriptor (TJx8e188 k).2.2.1 = some (tyJx8e188 k) := by decide +kernel
def RJ6 : String := "java/lang/Integer"
def TJ6 : u_T := fun k => match k with
  | _ => ("", "", "", false)
def tyJ6 : Nat → FieldType := fun k => match k with
  | _ => .int
abbrev wsJ60 : List Cond := u_ws RJ6 TJ6 0
theorem nmJ6 : ∀ a, a < 0 → ∀ b, b < 0 → a ≠ b → (TJ6 a).2.1 ≠ (TJ6 b).2.1 := by decide +kernel
theorem tyJ6_ok : ∀ k, k < 0 → parseFieldDescriptor (TJ6 k).2.2.1 = some (tyJ6 k) := by decide +kernel
abbrev cJ6_bitCount_0f7a4 : ByteArray := prog_17_method_49_code
def yJ6_bitCount_0f7a4 : MethodName := ⟨RJ6, "bitCount", "(I)I"⟩
def RJxab1ab : String := "java/lang/Iterable"
def TJxab1ab : u_T := fun k => match k with
  | _ => ("", "", "", false)
def tyJxab1ab : Nat → FieldType := fun k => match k with
  | _ => .int
abbrev wsJxab1ab0 : List Cond := u_ws RJxab1ab TJxab1ab 0
theorem nmJxab1ab : ∀ a, a < 0 → ∀ b, b < 0 → a ≠ b → (TJxab1ab a).2.1 ≠ (TJxab1ab b).2.1 := by decide +kernel
theorem tyJxab1ab_ok : ∀ k, k < 0 → parseFieldDescriptor (TJxab1ab k).2.2.1 = some (tyJxab1ab k) := by decide +kernel
def RJ9 : String := "java/lang/Math"
def TJ9 : u_T := fun k => match k with
  | _ => ("", "", "", false)
def tyJ9 : Nat → FieldType := fun k => match k with
  | _ => .int
abbrev wsJ90 : List Cond := u_ws RJ9 TJ9 0
theorem nmJ9 : ∀ a, a < 0 → ∀ b, b < 0 → a ≠ b → (TJ9 a).2.1 ≠ (TJ9 b).2.1 := by decide +kernel
theorem tyJ9_ok : ∀ k, k < 0 → parseFieldDescriptor (TJ9 k).2.2.1 = some (tyJ9 k) := by decide +kernel
abbrev cJ9_max_7cf53 : ByteArray := prog_19_method_65_code
def yJ9_max_7cf53 : MethodName := ⟨RJ9, "max", "(II)I"⟩
abbrev cJ9_min_7cf53 : ByteArray := prog_19_method_69_code
def yJ9_min_7cf53 : MethodName := ⟨RJ9, "min", "(II)I"⟩
def RJ10 : String := "java/lang/System"
def TJ10 : u_T := fun k => match k with
  | _ => ("", "", "", false)
def tyJ10 : Nat → FieldType := fun k => match k with
  | _ => .int
abbrev wsJ100 : List Cond := u_ws RJ10 TJ10 0
theorem nmJ10 : ∀ a, a < 0 → ∀ b, b < 0 → a ≠ b → (TJ10 a).2.1 ≠ (TJ10 b).2.1 := by decide +kernel
theorem tyJ10_ok : ∀ k, k < 0 → parseFieldDescriptor (TJ10 k).2.2.1 = some (tyJ10 k) := by decide +kernel
def RJxa1e45 : String := "java/util/AbstractCollection"
def TJxa1e45 : u_T := fun k => match k with
  | _ => ("", "", "", false)
def tyJxa1e45 : Nat → FieldType := fun k => match k with
  | _ => .int
abbrev wsJxa1e450 : List Cond := u_ws RJxa1e45 TJxa1e45 0
theorem nmJxa1e45 : ∀ a, a < 0 → ∀ b, b < 0 → a ≠ b → (TJxa1e45 a).2.1 ≠ (TJxa1e45 b).2.1 := by decide +kernel
theorem tyJxa1e45_ok : ∀ k, k < 0 → parseFieldDescriptor (TJxa1e45 k).2.2.1 = some (tyJxa1e45 k) := by decide +kernel
abbrev cJxa1e45_init_da8c8 : ByteArray := prog_21_method_1_code
def yJxa1e45_init_da8c8 : MethodName := ⟨RJxa1e45, "<init>", "()V"⟩
def RJxc12de : String := "java/util/AbstractList"
def TJxc12de : u_T := fun k => match k with
  | _ => ("", "", "", false)
def tyJxc12de : Nat → FieldType := fun k => match k with
  | _ => .int
abbrev wsJxc12de0 : List Cond := u_ws RJxc12de TJxc12de 0
theorem nmJxc12de : ∀ a, a < 0 → ∀ b, b < 0 → a ≠ b → (TJxc12de a).2.1 ≠ (TJxc12de b).2.1 := by decide +kernel
theorem tyJxc12de_ok : ∀ k, k < 0 → parseFieldDescriptor (TJxc12de k).2.2.1 = some (tyJxc12de k) := by decide +kernel
abbrev cJxc12de_init_da8c8 : ByteArray := prog_22_method_1_code
def yJxc12de_init_da8c8 : MethodName := ⟨RJxc12de, "<init>", "()V"⟩
def RJx4a65c : String := "java/util/ArrayList"
def TJx4a65c : u_T := fun k => match k with
  | 0 => ("java/util/AbstractList", "modCount", "I", false)
  | 1 => ("java/util/ArrayList", "elementData", "[Ljava/lang/Object;", false)
  | _ => ("java/util/ArrayList", "size", "I", false)
def tyJx4a65c : Nat → FieldType := fun k => match k with
  | 0 => .int
  | 1 => .array (.object "java/lang/Object")
  | _ => .int
abbrev wsJx4a65c0 : List Cond := u_ws RJx4a65c TJx4a65c 3
theorem nmJx4a65c : ∀ a, a < 3 → ∀ b, b < 3 → a ≠ b → (TJx4a65c a).2.1 ≠ (TJx4a65c b).2.1 := by decide +kernel
theorem tyJx4a65c_ok : ∀ k, k < 3 → parseFieldDescriptor (TJx4a65c k).2.2.1 = some (tyJx4a65c k) := by decide +kernel
abbrev cJx4a65c_init_da8c8 : ByteArray := prog_23_method_2_code
def yJx4a65c_init_da8c8 : MethodName := ⟨RJx4a65c, "<init>", "()V"⟩
abbrev cJx4a65c_grow_92f84 : ByteArray := prog_23_method_6_code
def yJx4a65c_grow_92f84 : MethodName := ⟨RJx4a65c, "grow", "(I)[Ljava/lang/Object;"⟩
abbrev cJx4a65c_grow_d5877 : ByteArray := prog_23_method_7_code
def yJx4a65c_grow_d5877 : MethodName := ⟨RJx4a65c, "grow", "()[Ljava/lang/Object;"⟩
abbrev cJx4a65c_size_8abf5 : ByteArray := prog_23_method_8_code
def yJx4a65c_size_8abf5 : MethodName := ⟨RJx4a65c, "size", "()I"⟩
abbrev cJx4a65c_isEmpty_aae02 : ByteArray := prog_23_method_9_code
def yJx4a65c_isEmpty_aae02 : MethodName := ⟨RJx4a65c, "isEmpty", "()Z"⟩
abbrev cJx4a65c_elementData_915e3 : ByteArray := prog_23_method_18_code
def yJx4a65c_elementData_915e3 : MethodName := ⟨RJx4a65c, "elementData", "(I)Ljava/lang/Object;"⟩
abbrev cJx4a65c_get_915e3 : ByteArray := prog_23_method_20_code
def yJx4a65c_get_915e3 : MethodName := ⟨RJx4a65c, "get", "(I)Ljava/lang/Object;"⟩
abbrev cJx4a65c_add_72be8 : ByteArray := prog_23_method_24_code
def yJx4a65c_add_72be8 : MethodName := ⟨RJx4a65c, "add", "(Ljava/lang/Object;[Ljava/lang/Object;I)V"⟩
abbrev cJx4a65c_add_9ea2d : ByteArray := prog_23_method_25_code
def yJx4a65c_add_9ea2d : MethodName := ⟨RJx4a65c, "add", "(Ljava/lang/Object;)Z"⟩
abbrev cJx4a65c_add_7a177 : ByteArray := prog_23_method_26_code
def yJx4a65c_add_7a177 : MethodName := ⟨RJx4a65c, "add", "(ILjava/lang/Object;)V"⟩
abbrev cJx4a65c_remove_915e3 : ByteArray := prog_23_method_29_code
def yJx4a65c_remove_915e3 : MethodName := ⟨RJx4a65c, "remove", "(I)Ljava/lang/Object;"⟩
abbrev cJx4a65c_fastRemove_b59b0 : ByteArray := prog_23_method_39_code
def yJx4a65c_fastRemove_b59b0 : MethodName := ⟨RJx4a65c, "fastRemove", "([Ljava/lang/Object;I)V"⟩
abbrev cJx4a65c_clear_da8c8 : ByteArray := prog_23_method_40_code
def yJx4a65c_clear_da8c8 : MethodName := ⟨RJx4a65c, "clear", "()V"⟩
abbrev cJx4a65c_rangeCheckForAdd_d00df : ByteArray := prog_23_method_45_code
def yJx4a65c_rangeCheckForAdd_d00df : MethodName := ⟨RJx4a65c, "rangeCheckForAdd", "(I)V"⟩
def RJ7 : String := "java/util/Arrays"
def TJ7 : u_T := fun k => match k with
  | _ => ("", "", "", false)
def tyJ7 : Nat → FieldType := fun k => match k with
  | _ => .int
abbrev wsJ70 : List Cond := u_ws RJ7 TJ7 0
theorem nmJ7 : ∀ a, a < 0 → ∀ b, b < 0 → a ≠ b → (TJ7 a).2.1 ≠ (TJ7 b).2.1 := by decide +kernel
theorem tyJ7_ok : ∀ k, k < 0 → parseFieldDescriptor (TJ7 k).2.2.1 = some (tyJ7 k) := by decide +kernel
abbrev cJ7_copyOf_1904c : ByteArray := prog_24_method_119_code
def yJ7_copyOf_1904c : MethodName := ⟨RJ7, "copyOf", "([Ljava/lang/Object;I)[Ljava/lang/Object;"⟩
abbrev cJ7_copyOf_6403c : ByteArray := prog_24_method_120_code
def yJ7_copyOf_6403c : MethodName := ⟨RJ7, "copyOf", "([Ljava/lang/Object;ILjava/lang/Class;)[Ljava/lang/Object;"⟩
def RJx5ef63 : String := "java/util/Collection"
def TJx5ef63 : u_T := fun k => match k with
  | _ => ("", "", "", false)
def tyJx5ef63 : Nat → FieldType := fun k => match k with
  | _ => .int
abbrev wsJx5ef630 : List Cond := u_ws RJx5ef63 TJx5ef63 0
theorem nmJx5ef63 : ∀ a, a < 0 → ∀ b, b < 0 → a ≠ b → (TJx5ef63 a).2.1 ≠ (TJx5ef63 b).2.1 := by decide +kernel
theorem tyJx5ef63_ok : ∀ k, k < 0 → parseFieldDescriptor (TJx5ef63 k).2.2.1 = some (tyJx5ef63 k) := by decide +kernel
def RJxbd725 : String := "java/util/List"
def TJxbd725 : u_T := fun k => match k with
  | _ => ("", "", "", false)
def tyJxbd725 : Nat → FieldType := fun k => match k with
  | _ => .int
abbrev wsJxbd7250 : List Cond := u_ws RJxbd725 TJxbd725 0
theorem nmJxbd725 : ∀ a, a < 0 → ∀ b, b < 0 → a ≠ b → (TJxbd725 a).2.1 ≠ (TJxbd725 b).2.1 := by decide +kernel
theorem tyJxbd725_ok : ∀ k, k < 0 → parseFieldDescriptor (TJxbd725 k).2.2.1 = some (tyJxbd725 k) := by decide +kernel
def RJ15 : String := "java/util/Objects"
def TJ15 : u_T := fun k => match k with
  | _ => ("", "", "", false)
def tyJ15 : Nat → FieldType := fun k => match k with
  | _ => .int
abbrev wsJ150 : List Cond := u_ws RJ15 TJ15 0
theorem nmJ15 : ∀ a, a < 0 → ∀ b, b < 0 → a ≠ b → (TJ15 a).2.1 ≠ (TJ15 b).2.1 := by decide +kernel
theorem tyJ15_ok : ∀ k, k < 0 → parseFieldDescriptor (TJ15 k).2.2.1 = some (tyJ15 k) := by decide +kernel
abbrev cJ15_checkIndex_7cf53 : ByteArray := prog_27_method_17_code
def yJ15_checkIndex_7cf53 : MethodName := ⟨RJ15, "checkIndex", "(II)I"⟩
def RJxf0a74 : String := "java/util/RandomAccess"
def TJxf0a74 : u_T := fun k => match k with
  | _ => ("", "", "", false)
def tyJxf0a74 : Nat → FieldType := fun k => match k with
  | _ => .int
abbrev wsJxf0a740 : List Cond := u_ws RJxf0a74 TJxf0a74 0
theorem nmJxf0a74 : ∀ a, a < 0 → ∀ b, b < 0 → a ≠ b → (TJxf0a74 a).2.1 ≠ (TJxf0a74 b).2.1 := by decide +kernel
theorem tyJxf0a74_ok : ∀ k, k < 0 → parseFieldDescriptor (TJxf0a74 k).2.2.1 = some (tyJxf0a74 k) := by decide +kernel
def RJxa66e6 : String := "java/util/SequencedCollection"
def TJxa66e6 : u_T := fun k => match k with
  | _ => ("", "", "", false)
def tyJxa66e6 : Nat → FieldType := fun k => match k with
  | _ => .int
abbrev wsJxa66e60 : List Cond := u_ws RJxa66e6 TJxa66e6 0
theorem nmJxa66e6 : ∀ a, a < 0 → ∀ b, b < 0 → a ≠ b → (TJxa66e6 a).2.1 ≠ (TJxa66e6 b).2.1 := by decide +kernel
theorem tyJxa66e6_ok : ∀ k, k < 0 → parseFieldDescriptor (TJxa66e6 k).2.2.1 = some (tyJxa66e6 k) := by decide +kernel
def RJ8 : String := "jdk/internal/util/ArraysSupport"
def TJ8 : u_T := fun k => match k with
  | _ => ("", "", "", false)
def tyJ8 : Nat → FieldType := fun k => match k with
  | _ => .int
abbrev wsJ80 : List Cond := u_ws RJ8 TJ8 0
theorem nmJ8 : ∀ a, a < 0 → ∀ b, b < 0 → a ≠ b → (TJ8 a).2.1 ≠ (TJ8 b).2.1 := by decide +kernel
theorem tyJ8_ok : ∀ k, k < 0 → parseFieldDescriptor (TJ8 k).2.2.1 = some (tyJ8 k) := by decide +kernel
abbrev cJ8_newLength_cabcc : ByteArray := prog_30_method_27_code
def yJ8_newLength_cabcc : MethodName := ⟨RJ8, "newLength", "(III)I"⟩
abbrev cJ8_hugeLength_7cf53 : ByteArray := prog_30_method_28_code
def yJ8_hugeLength_7cf53 : MethodName := ⟨RJ8, "hugeLength", "(II)I"⟩
def RJ3 : String := "jdk/internal/util/Preconditions"
def TJ3 : u_T := fun k => match k with
  | _ => ("", "", "", false)
def tyJ3 : Nat → FieldType := fun k => match k with
  | _ => .int
abbrev wsJ30 : List Cond := u_ws RJ3 TJ3 0
theorem nmJ3 : ∀ a, a < 0 → ∀ b, b < 0 → a ≠ b → (TJ3 a).2.1 ≠ (TJ3 b).2.1 := by decide +kernel
theorem tyJ3_ok : ∀ k, k < 0 → parseFieldDescriptor (TJ3 k).2.2.1 = some (tyJ3 k) := by decide +kernel
abbrev cJ3_checkIndex_8e157 : ByteArray := prog_31_method_11_code
def yJ3_checkIndex_8e157 : MethodName := ⟨RJ3, "checkIndex", "(IILjava/util/function/BiFunction;)I"⟩
def RL : String := "LetterBrokerLaw"
abbrev cL_law : ByteArray := code
def yL_law : MethodName := ⟨RL, "law", "([I)Z"⟩
abbrev vwCl : List vw_C := [(RJx4a65c, TJx4a65c, 3), (RX0, TX0, 4), (RX1, TX1, 9), (RX2, TX2, 5), (RX3, TX3, 4), (RX4, TX4, 7), (RX5, TX5, 2), (RX6, TX6, 6), (RX7, TX7, 5), (RX8, TX8, 6), (RX9, TX9, 5), (RX10, TX10, 3), (RX11, TX11, 5), (RX12, TX12, 62)]
