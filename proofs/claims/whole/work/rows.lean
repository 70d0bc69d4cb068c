section
-- ===== PART A: goes FIRST, ahead of the names: the tables' words, and 'selects' of the private methods out of them =====
/-- a private method of a class that the tables say can be made, by its rows of tables_1 -/
def lw_okq (q : MethodName × Nat) : Prop := (q.1.cls ≠ "java/lang/invoke/MethodHandle" ∧ q.1.cls ≠ "java/lang/invoke/VarHandle") ∧ Cond.instantiable q.1.cls q.2 ∈ tables_1 ∧ Cond.privateMethod q.1 ∈ tables_1 ∧ Cond.instanceMethod q.1 ∈ tables_1
theorem lw_p0 : lw_okq (⟨"ProxyVotes$History", "note", "(LProxyVotes$Committee;)V"⟩, 3) := ⟨⟨by decide +kernel, by decide +kernel⟩, List.mem_of_getElem? (i := 184) (by decide +kernel), List.mem_of_getElem? (i := 271) (by decide +kernel), List.mem_of_getElem? (i := 272) (by decide +kernel)⟩
theorem lw_p1 : lw_okq (⟨"ProxyVotes$Committee", "copyFrom", "(LProxyVotes$Committee;)V"⟩, 11) := ⟨⟨by decide +kernel, by decide +kernel⟩, List.mem_of_getElem? (i := 22) (by decide +kernel), List.mem_of_getElem? (i := 275) (by decide +kernel), List.mem_of_getElem? (i := 276) (by decide +kernel)⟩
theorem lw_p2 : lw_okq (⟨"ProxyVotes$Item", "copyFrom", "(LProxyVotes$Item;)V"⟩, 10) := ⟨⟨by decide +kernel, by decide +kernel⟩, List.mem_of_getElem? (i := 59) (by decide +kernel), List.mem_of_getElem? (i := 279) (by decide +kernel), List.mem_of_getElem? (i := 280) (by decide +kernel)⟩
theorem lw_p3 : lw_okq (⟨"ProxyVotes$Movements", "copyFrom", "(LProxyVotes$Movements;)V"⟩, 4) := ⟨⟨by decide +kernel, by decide +kernel⟩, List.mem_of_getElem? (i := 30) (by decide +kernel), List.mem_of_getElem? (i := 284) (by decide +kernel), List.mem_of_getElem? (i := 285) (by decide +kernel)⟩
theorem lw_p4 : lw_okq (⟨"ProxyVotes$Committee", "changeSetting", "(II)I"⟩, 11) := ⟨⟨by decide +kernel, by decide +kernel⟩, List.mem_of_getElem? (i := 22) (by decide +kernel), List.mem_of_getElem? (i := 289) (by decide +kernel), List.mem_of_getElem? (i := 290) (by decide +kernel)⟩
theorem lw_p5 : lw_okq (⟨"ProxyVotes$History", "settle", "(I)I"⟩, 3) := ⟨⟨by decide +kernel, by decide +kernel⟩, List.mem_of_getElem? (i := 184) (by decide +kernel), List.mem_of_getElem? (i := 295) (by decide +kernel), List.mem_of_getElem? (i := 296) (by decide +kernel)⟩
theorem lw_p6 : lw_okq (⟨"ProxyVotes$Committee", "addMember", "(II)I"⟩, 11) := ⟨⟨by decide +kernel, by decide +kernel⟩, List.mem_of_getElem? (i := 22) (by decide +kernel), List.mem_of_getElem? (i := 309) (by decide +kernel), List.mem_of_getElem? (i := 310) (by decide +kernel)⟩
theorem lw_p7 : lw_okq (⟨"ProxyVotes$Committee", "addItem", "(II)I"⟩, 11) := ⟨⟨by decide +kernel, by decide +kernel⟩, List.mem_of_getElem? (i := 22) (by decide +kernel), List.mem_of_getElem? (i := 317) (by decide +kernel), List.mem_of_getElem? (i := 318) (by decide +kernel)⟩
theorem lw_p8 : lw_okq (⟨"ProxyVotes$Item", "begin", "(II)V"⟩, 10) := ⟨⟨by decide +kernel, by decide +kernel⟩, List.mem_of_getElem? (i := 59) (by decide +kernel), List.mem_of_getElem? (i := 321) (by decide +kernel), List.mem_of_getElem? (i := 322) (by decide +kernel)⟩
theorem lw_p9 : lw_okq (⟨"ProxyVotes$Committee", "nameChair", "(I)I"⟩, 11) := ⟨⟨by decide +kernel, by decide +kernel⟩, List.mem_of_getElem? (i := 22) (by decide +kernel), List.mem_of_getElem? (i := 332) (by decide +kernel), List.mem_of_getElem? (i := 333) (by decide +kernel)⟩
theorem lw_p10 : lw_okq (⟨"ProxyVotes$Committee", "hasMember", "(I)Z"⟩, 11) := ⟨⟨by decide +kernel, by decide +kernel⟩, List.mem_of_getElem? (i := 22) (by decide +kernel), List.mem_of_getElem? (i := 336) (by decide +kernel), List.mem_of_getElem? (i := 337) (by decide +kernel)⟩
theorem lw_p11 : lw_okq (⟨"ProxyVotes$Committee", "bringIn", "(I)I"⟩, 11) := ⟨⟨by decide +kernel, by decide +kernel⟩, List.mem_of_getElem? (i := 22) (by decide +kernel), List.mem_of_getElem? (i := 344) (by decide +kernel), List.mem_of_getElem? (i := 345) (by decide +kernel)⟩
theorem lw_p12 : lw_okq (⟨"ProxyVotes$Committee", "isPresent", "(I)Z"⟩, 11) := ⟨⟨by decide +kernel, by decide +kernel⟩, List.mem_of_getElem? (i := 22) (by decide +kernel), List.mem_of_getElem? (i := 348) (by decide +kernel), List.mem_of_getElem? (i := 349) (by decide +kernel)⟩
theorem lw_p13 : lw_okq (⟨"ProxyVotes$Committee", "sendAway", "(I)I"⟩, 11) := ⟨⟨by decide +kernel, by decide +kernel⟩, List.mem_of_getElem? (i := 22) (by decide +kernel), List.mem_of_getElem? (i := 362) (by decide +kernel), List.mem_of_getElem? (i := 363) (by decide +kernel)⟩
theorem lw_p14 : lw_okq (⟨"ProxyVotes$Committee", "addMovement", "(III)I"⟩, 11) := ⟨⟨by decide +kernel, by decide +kernel⟩, List.mem_of_getElem? (i := 22) (by decide +kernel), List.mem_of_getElem? (i := 370) (by decide +kernel), List.mem_of_getElem? (i := 371) (by decide +kernel)⟩
theorem lw_p15 : lw_okq (⟨"ProxyVotes$Movements", "append", "(III)V"⟩, 4) := ⟨⟨by decide +kernel, by decide +kernel⟩, List.mem_of_getElem? (i := 30) (by decide +kernel), List.mem_of_getElem? (i := 374) (by decide +kernel), List.mem_of_getElem? (i := 375) (by decide +kernel)⟩
def lw_privs_1 : List (MethodName × Nat) := [(⟨"ProxyVotes$History", "note", "(LProxyVotes$Committee;)V"⟩, 3), (⟨"ProxyVotes$Committee", "copyFrom", "(LProxyVotes$Committee;)V"⟩, 11), (⟨"ProxyVotes$Item", "copyFrom", "(LProxyVotes$Item;)V"⟩, 10), (⟨"ProxyVotes$Movements", "copyFrom", "(LProxyVotes$Movements;)V"⟩, 4), (⟨"ProxyVotes$Committee", "changeSetting", "(II)I"⟩, 11), (⟨"ProxyVotes$History", "settle", "(I)I"⟩, 3), (⟨"ProxyVotes$Committee", "addMember", "(II)I"⟩, 11), (⟨"ProxyVotes$Committee", "addItem", "(II)I"⟩, 11), (⟨"ProxyVotes$Item", "begin", "(II)V"⟩, 10), (⟨"ProxyVotes$Committee", "nameChair", "(I)I"⟩, 11), (⟨"ProxyVotes$Committee", "hasMember", "(I)Z"⟩, 11), (⟨"ProxyVotes$Committee", "bringIn", "(I)I"⟩, 11), (⟨"ProxyVotes$Committee", "isPresent", "(I)Z"⟩, 11), (⟨"ProxyVotes$Committee", "sendAway", "(I)I"⟩, 11), (⟨"ProxyVotes$Committee", "addMovement", "(III)I"⟩, 11), (⟨"ProxyVotes$Movements", "append", "(III)V"⟩, 4)]
theorem lw_r1 : ∀ q ∈ lw_privs_1, lw_okq q := List.forall_mem_cons.mpr ⟨lw_p0, List.forall_mem_cons.mpr ⟨lw_p1, List.forall_mem_cons.mpr ⟨lw_p2, List.forall_mem_cons.mpr ⟨lw_p3, List.forall_mem_cons.mpr ⟨lw_p4, List.forall_mem_cons.mpr ⟨lw_p5, List.forall_mem_cons.mpr ⟨lw_p6, List.forall_mem_cons.mpr ⟨lw_p7, List.forall_mem_cons.mpr ⟨lw_p8, List.forall_mem_cons.mpr ⟨lw_p9, List.forall_mem_cons.mpr ⟨lw_p10, List.forall_mem_cons.mpr ⟨lw_p11, List.forall_mem_cons.mpr ⟨lw_p12, List.forall_mem_cons.mpr ⟨lw_p13, List.forall_mem_cons.mpr ⟨lw_p14, List.forall_mem_cons.mpr ⟨lw_p15, fun _ h => absurd h List.not_mem_nil⟩⟩⟩⟩⟩⟩⟩⟩⟩⟩⟩⟩⟩⟩⟩⟩
theorem lw_p16 : lw_okq (⟨"ProxyVotes$Committee", "nameHolder", "(III)I"⟩, 11) := ⟨⟨by decide +kernel, by decide +kernel⟩, List.mem_of_getElem? (i := 22) (by decide +kernel), List.mem_of_getElem? (i := 382) (by decide +kernel), List.mem_of_getElem? (i := 383) (by decide +kernel)⟩
theorem lw_p17 : lw_okq (⟨"ProxyVotes$Committee", "hasItem", "(I)Z"⟩, 11) := ⟨⟨by decide +kernel, by decide +kernel⟩, List.mem_of_getElem? (i := 22) (by decide +kernel), List.mem_of_getElem? (i := 386) (by decide +kernel), List.mem_of_getElem? (i := 387) (by decide +kernel)⟩
theorem lw_p18 : lw_okq (⟨"ProxyVotes$Committee", "tellChoice", "(III)I"⟩, 11) := ⟨⟨by decide +kernel, by decide +kernel⟩, List.mem_of_getElem? (i := 22) (by decide +kernel), List.mem_of_getElem? (i := 394) (by decide +kernel), List.mem_of_getElem? (i := 395) (by decide +kernel)⟩
theorem lw_p19 : lw_okq (⟨"ProxyVotes$Item", "isPending", "()Z"⟩, 10) := ⟨⟨by decide +kernel, by decide +kernel⟩, List.mem_of_getElem? (i := 59) (by decide +kernel), List.mem_of_getElem? (i := 401) (by decide +kernel), List.mem_of_getElem? (i := 402) (by decide +kernel)⟩
theorem lw_p20 : lw_okq (⟨"ProxyVotes$Committee", "recuseByHand", "(III)I"⟩, 11) := ⟨⟨by decide +kernel, by decide +kernel⟩, List.mem_of_getElem? (i := 22) (by decide +kernel), List.mem_of_getElem? (i := 409) (by decide +kernel), List.mem_of_getElem? (i := 410) (by decide +kernel)⟩
theorem lw_p21 : lw_okq (⟨"ProxyVotes$Committee", "isRecused", "(ILProxyVotes$Item;)Z"⟩, 11) := ⟨⟨by decide +kernel, by decide +kernel⟩, List.mem_of_getElem? (i := 22) (by decide +kernel), List.mem_of_getElem? (i := 413) (by decide +kernel), List.mem_of_getElem? (i := 414) (by decide +kernel)⟩
theorem lw_p22 : lw_okq (⟨"ProxyVotes$Committee", "openItem", "(ILProxyVotes$Hearing;)I"⟩, 11) := ⟨⟨by decide +kernel, by decide +kernel⟩, List.mem_of_getElem? (i := 22) (by decide +kernel), List.mem_of_getElem? (i := 421) (by decide +kernel), List.mem_of_getElem? (i := 422) (by decide +kernel)⟩
theorem lw_p23 : lw_okq (⟨"ProxyVotes$Hearing", "listen", "(LProxyVotes$Committee;LProxyVotes$Item;)V"⟩, 3) := ⟨⟨by decide +kernel, by decide +kernel⟩, List.mem_of_getElem? (i := 164) (by decide +kernel), List.mem_of_getElem? (i := 425) (by decide +kernel), List.mem_of_getElem? (i := 426) (by decide +kernel)⟩
theorem lw_p24 : lw_okq (⟨"ProxyVotes$Hearing", "takenUp", "(LProxyVotes$Committee;LProxyVotes$Item;I)I"⟩, 3) := ⟨⟨by decide +kernel, by decide +kernel⟩, List.mem_of_getElem? (i := 164) (by decide +kernel), List.mem_of_getElem? (i := 432) (by decide +kernel), List.mem_of_getElem? (i := 433) (by decide +kernel)⟩
theorem lw_p25 : lw_okq (⟨"ProxyVotes$Hearing", "endOfWay", "(LProxyVotes$Committee;LProxyVotes$Item;I)I"⟩, 3) := ⟨⟨by decide +kernel, by decide +kernel⟩, List.mem_of_getElem? (i := 164) (by decide +kernel), List.mem_of_getElem? (i := 436) (by decide +kernel), List.mem_of_getElem? (i := 437) (by decide +kernel)⟩
theorem lw_p26 : lw_okq (⟨"ProxyVotes$Committee", "holderFor", "(ILProxyVotes$Item;)I"⟩, 11) := ⟨⟨by decide +kernel, by decide +kernel⟩, List.mem_of_getElem? (i := 22) (by decide +kernel), List.mem_of_getElem? (i := 440) (by decide +kernel), List.mem_of_getElem? (i := 441) (by decide +kernel)⟩
theorem lw_p27 : lw_okq (⟨"ProxyVotes$Hearing", "weightThere", "(LProxyVotes$Committee;)I"⟩, 3) := ⟨⟨by decide +kernel, by decide +kernel⟩, List.mem_of_getElem? (i := 164) (by decide +kernel), List.mem_of_getElem? (i := 444) (by decide +kernel), List.mem_of_getElem? (i := 445) (by decide +kernel)⟩
theorem lw_p28 : lw_okq (⟨"ProxyVotes$Committee", "firstIn", "(I)I"⟩, 11) := ⟨⟨by decide +kernel, by decide +kernel⟩, List.mem_of_getElem? (i := 22) (by decide +kernel), List.mem_of_getElem? (i := 448) (by decide +kernel), List.mem_of_getElem? (i := 449) (by decide +kernel)⟩
theorem lw_p29 : lw_okq (⟨"ProxyVotes$Committee", "isQuorum", "(I)Z"⟩, 11) := ⟨⟨by decide +kernel, by decide +kernel⟩, List.mem_of_getElem? (i := 22) (by decide +kernel), List.mem_of_getElem? (i := 452) (by decide +kernel), List.mem_of_getElem? (i := 453) (by decide +kernel)⟩
theorem lw_p30 : lw_okq (⟨"ProxyVotes$Committee", "weightOfAll", "()I"⟩, 11) := ⟨⟨by decide +kernel, by decide +kernel⟩, List.mem_of_getElem? (i := 22) (by decide +kernel), List.mem_of_getElem? (i := 456) (by decide +kernel), List.mem_of_getElem? (i := 457) (by decide +kernel)⟩
theorem lw_p31 : lw_okq (⟨"ProxyVotes$Committee", "giveVote", "(II)I"⟩, 11) := ⟨⟨by decide +kernel, by decide +kernel⟩, List.mem_of_getElem? (i := 22) (by decide +kernel), List.mem_of_getElem? (i := 464) (by decide +kernel), List.mem_of_getElem? (i := 465) (by decide +kernel)⟩
def lw_privs_2 : List (MethodName × Nat) := [(⟨"ProxyVotes$Committee", "nameHolder", "(III)I"⟩, 11), (⟨"ProxyVotes$Committee", "hasItem", "(I)Z"⟩, 11), (⟨"ProxyVotes$Committee", "tellChoice", "(III)I"⟩, 11), (⟨"ProxyVotes$Item", "isPending", "()Z"⟩, 10), (⟨"ProxyVotes$Committee", "recuseByHand", "(III)I"⟩, 11), (⟨"ProxyVotes$Committee", "isRecused", "(ILProxyVotes$Item;)Z"⟩, 11), (⟨"ProxyVotes$Committee", "openItem", "(ILProxyVotes$Hearing;)I"⟩, 11), (⟨"ProxyVotes$Hearing", "listen", "(LProxyVotes$Committee;LProxyVotes$Item;)V"⟩, 3), (⟨"ProxyVotes$Hearing", "takenUp", "(LProxyVotes$Committee;LProxyVotes$Item;I)I"⟩, 3), (⟨"ProxyVotes$Hearing", "endOfWay", "(LProxyVotes$Committee;LProxyVotes$Item;I)I"⟩, 3), (⟨"ProxyVotes$Committee", "holderFor", "(ILProxyVotes$Item;)I"⟩, 11), (⟨"ProxyVotes$Hearing", "weightThere", "(LProxyVotes$Committee;)I"⟩, 3), (⟨"ProxyVotes$Committee", "firstIn", "(I)I"⟩, 11), (⟨"ProxyVotes$Committee", "isQuorum", "(I)Z"⟩, 11), (⟨"ProxyVotes$Committee", "weightOfAll", "()I"⟩, 11), (⟨"ProxyVotes$Committee", "giveVote", "(II)I"⟩, 11)]
theorem lw_r2 : ∀ q ∈ lw_privs_2, lw_okq q := List.forall_mem_cons.mpr ⟨lw_p16, List.forall_mem_cons.mpr ⟨lw_p17, List.forall_mem_cons.mpr ⟨lw_p18, List.forall_mem_cons.mpr ⟨lw_p19, List.forall_mem_cons.mpr ⟨lw_p20, List.forall_mem_cons.mpr ⟨lw_p21, List.forall_mem_cons.mpr ⟨lw_p22, List.forall_mem_cons.mpr ⟨lw_p23, List.forall_mem_cons.mpr ⟨lw_p24, List.forall_mem_cons.mpr ⟨lw_p25, List.forall_mem_cons.mpr ⟨lw_p26, List.forall_mem_cons.mpr ⟨lw_p27, List.forall_mem_cons.mpr ⟨lw_p28, List.forall_mem_cons.mpr ⟨lw_p29, List.forall_mem_cons.mpr ⟨lw_p30, List.forall_mem_cons.mpr ⟨lw_p31, fun _ h => absurd h List.not_mem_nil⟩⟩⟩⟩⟩⟩⟩⟩⟩⟩⟩⟩⟩⟩⟩⟩
theorem lw_p32 : lw_okq (⟨"ProxyVotes$Committee", "canVote", "(ILProxyVotes$Item;)Z"⟩, 11) := ⟨⟨by decide +kernel, by decide +kernel⟩, List.mem_of_getElem? (i := 22) (by decide +kernel), List.mem_of_getElem? (i := 468) (by decide +kernel), List.mem_of_getElem? (i := 469) (by decide +kernel)⟩
theorem lw_p33 : lw_okq (⟨"ProxyVotes$Committee", "closeItem", "(LProxyVotes$Hearing;)I"⟩, 11) := ⟨⟨by decide +kernel, by decide +kernel⟩, List.mem_of_getElem? (i := 22) (by decide +kernel), List.mem_of_getElem? (i := 476) (by decide +kernel), List.mem_of_getElem? (i := 477) (by decide +kernel)⟩
theorem lw_p34 : lw_okq (⟨"ProxyVotes$Hearing", "tally", "(LProxyVotes$Committee;LProxyVotes$Item;)V"⟩, 3) := ⟨⟨by decide +kernel, by decide +kernel⟩, List.mem_of_getElem? (i := 164) (by decide +kernel), List.mem_of_getElem? (i := 480) (by decide +kernel), List.mem_of_getElem? (i := 481) (by decide +kernel)⟩
theorem lw_p35 : lw_okq (⟨"ProxyVotes$Hearing", "wayOf", "(LProxyVotes$Committee;LProxyVotes$Item;I)I"⟩, 3) := ⟨⟨by decide +kernel, by decide +kernel⟩, List.mem_of_getElem? (i := 164) (by decide +kernel), List.mem_of_getElem? (i := 484) (by decide +kernel), List.mem_of_getElem? (i := 485) (by decide +kernel)⟩
theorem lw_p36 : lw_okq (⟨"ProxyVotes$Hearing", "outcome", "(LProxyVotes$Committee;LProxyVotes$Item;I)I"⟩, 3) := ⟨⟨by decide +kernel, by decide +kernel⟩, List.mem_of_getElem? (i := 164) (by decide +kernel), List.mem_of_getElem? (i := 488) (by decide +kernel), List.mem_of_getElem? (i := 489) (by decide +kernel)⟩
theorem lw_p37 : lw_okq (⟨"ProxyVotes$Item", "putOff", "()V"⟩, 10) := ⟨⟨by decide +kernel, by decide +kernel⟩, List.mem_of_getElem? (i := 59) (by decide +kernel), List.mem_of_getElem? (i := 492) (by decide +kernel), List.mem_of_getElem? (i := 493) (by decide +kernel)⟩
theorem lw_p38 : lw_okq (⟨"ProxyVotes$Committee", "breakTie", "(I)I"⟩, 11) := ⟨⟨by decide +kernel, by decide +kernel⟩, List.mem_of_getElem? (i := 22) (by decide +kernel), List.mem_of_getElem? (i := 500) (by decide +kernel), List.mem_of_getElem? (i := 501) (by decide +kernel)⟩
theorem lw_p39 : lw_okq (⟨"ProxyVotes$Committee", "chairOfTheMoment", "()I"⟩, 11) := ⟨⟨by decide +kernel, by decide +kernel⟩, List.mem_of_getElem? (i := 22) (by decide +kernel), List.mem_of_getElem? (i := 504) (by decide +kernel), List.mem_of_getElem? (i := 505) (by decide +kernel)⟩
theorem lw_p40 : lw_okq (⟨"ProxyVotes$Committee", "letPass", "(I)I"⟩, 11) := ⟨⟨by decide +kernel, by decide +kernel⟩, List.mem_of_getElem? (i := 22) (by decide +kernel), List.mem_of_getElem? (i := 512) (by decide +kernel), List.mem_of_getElem? (i := 513) (by decide +kernel)⟩
theorem lw_p41 : lw_okq (⟨"ProxyVotes$Committee", "moveTo", "(I)V"⟩, 11) := ⟨⟨by decide +kernel, by decide +kernel⟩, List.mem_of_getElem? (i := 22) (by decide +kernel), List.mem_of_getElem? (i := 516) (by decide +kernel), List.mem_of_getElem? (i := 517) (by decide +kernel)⟩
theorem lw_p42 : lw_okq (⟨"ProxyVotes$Movements", "next", "()I"⟩, 4) := ⟨⟨by decide +kernel, by decide +kernel⟩, List.mem_of_getElem? (i := 30) (by decide +kernel), List.mem_of_getElem? (i := 520) (by decide +kernel), List.mem_of_getElem? (i := 521) (by decide +kernel)⟩
theorem lw_p43 : lw_okq (⟨"ProxyVotes$Movements", "drop", "(I)V"⟩, 4) := ⟨⟨by decide +kernel, by decide +kernel⟩, List.mem_of_getElem? (i := 30) (by decide +kernel), List.mem_of_getElem? (i := 524) (by decide +kernel), List.mem_of_getElem? (i := 525) (by decide +kernel)⟩
theorem lw_p44 : lw_okq (⟨"ProxyVotes$Committee", "votesOf", "(I)I"⟩, 11) := ⟨⟨by decide +kernel, by decide +kernel⟩, List.mem_of_getElem? (i := 22) (by decide +kernel), List.mem_of_getElem? (i := 534) (by decide +kernel), List.mem_of_getElem? (i := 535) (by decide +kernel)⟩
theorem lw_p45 : lw_okq (⟨"ProxyVotes$Committee", "tiesBrokenBy", "(I)I"⟩, 11) := ⟨⟨by decide +kernel, by decide +kernel⟩, List.mem_of_getElem? (i := 22) (by decide +kernel), List.mem_of_getElem? (i := 538) (by decide +kernel), List.mem_of_getElem? (i := 539) (by decide +kernel)⟩
theorem lw_p46 : lw_okq (⟨"ProxyVotes", "sumOf", "(LProxyVotes$Item;I)I"⟩, 9) := ⟨⟨by decide +kernel, by decide +kernel⟩, List.mem_of_getElem? (i := 14) (by decide +kernel), List.mem_of_getElem? (i := 550) (by decide +kernel), List.mem_of_getElem? (i := 551) (by decide +kernel)⟩
theorem lw_p47 : lw_okq (⟨"ProxyVotes$Hearing", "spokenForBy", "(LProxyVotes$Committee;I)I"⟩, 3) := ⟨⟨by decide +kernel, by decide +kernel⟩, List.mem_of_getElem? (i := 164) (by decide +kernel), List.mem_of_getElem? (i := 562) (by decide +kernel), List.mem_of_getElem? (i := 563) (by decide +kernel)⟩
def lw_privs_3 : List (MethodName × Nat) := [(⟨"ProxyVotes$Committee", "canVote", "(ILProxyVotes$Item;)Z"⟩, 11), (⟨"ProxyVotes$Committee", "closeItem", "(LProxyVotes$Hearing;)I"⟩, 11), (⟨"ProxyVotes$Hearing", "tally", "(LProxyVotes$Committee;LProxyVotes$Item;)V"⟩, 3), (⟨"ProxyVotes$Hearing", "wayOf", "(LProxyVotes$Committee;LProxyVotes$Item;I)I"⟩, 3), (⟨"ProxyVotes$Hearing", "outcome", "(LProxyVotes$Committee;LProxyVotes$Item;I)I"⟩, 3), (⟨"ProxyVotes$Item", "putOff", "()V"⟩, 10), (⟨"ProxyVotes$Committee", "breakTie", "(I)I"⟩, 11), (⟨"ProxyVotes$Committee", "chairOfTheMoment", "()I"⟩, 11), (⟨"ProxyVotes$Committee", "letPass", "(I)I"⟩, 11), (⟨"ProxyVotes$Committee", "moveTo", "(I)V"⟩, 11), (⟨"ProxyVotes$Movements", "next", "()I"⟩, 4), (⟨"ProxyVotes$Movements", "drop", "(I)V"⟩, 4), (⟨"ProxyVotes$Committee", "votesOf", "(I)I"⟩, 11), (⟨"ProxyVotes$Committee", "tiesBrokenBy", "(I)I"⟩, 11), (⟨"ProxyVotes", "sumOf", "(LProxyVotes$Item;I)I"⟩, 9), (⟨"ProxyVotes$Hearing", "spokenForBy", "(LProxyVotes$Committee;I)I"⟩, 3)]
theorem lw_r3 : ∀ q ∈ lw_privs_3, lw_okq q := List.forall_mem_cons.mpr ⟨lw_p32, List.forall_mem_cons.mpr ⟨lw_p33, List.forall_mem_cons.mpr ⟨lw_p34, List.forall_mem_cons.mpr ⟨lw_p35, List.forall_mem_cons.mpr ⟨lw_p36, List.forall_mem_cons.mpr ⟨lw_p37, List.forall_mem_cons.mpr ⟨lw_p38, List.forall_mem_cons.mpr ⟨lw_p39, List.forall_mem_cons.mpr ⟨lw_p40, List.forall_mem_cons.mpr ⟨lw_p41, List.forall_mem_cons.mpr ⟨lw_p42, List.forall_mem_cons.mpr ⟨lw_p43, List.forall_mem_cons.mpr ⟨lw_p44, List.forall_mem_cons.mpr ⟨lw_p45, List.forall_mem_cons.mpr ⟨lw_p46, List.forall_mem_cons.mpr ⟨lw_p47, fun _ h => absurd h List.not_mem_nil⟩⟩⟩⟩⟩⟩⟩⟩⟩⟩⟩⟩⟩⟩⟩⟩
theorem lw_p48 : lw_okq (⟨"ProxyVotes$Committee", "itemsIn", "(I)I"⟩, 11) := ⟨⟨by decide +kernel, by decide +kernel⟩, List.mem_of_getElem? (i := 22) (by decide +kernel), List.mem_of_getElem? (i := 570) (by decide +kernel), List.mem_of_getElem? (i := 571) (by decide +kernel)⟩
theorem lw_p49 : lw_okq (⟨"ProxyVotes", "canTurn", "(ILProxyVotes$Item;I)Z"⟩, 9) := ⟨⟨by decide +kernel, by decide +kernel⟩, List.mem_of_getElem? (i := 14) (by decide +kernel), List.mem_of_getElem? (i := 588) (by decide +kernel), List.mem_of_getElem? (i := 589) (by decide +kernel)⟩
theorem lw_p50 : lw_okq (⟨"ProxyVotes", "findGains", "(LProxyVotes$Item;)I"⟩, 9) := ⟨⟨by decide +kernel, by decide +kernel⟩, List.mem_of_getElem? (i := 14) (by decide +kernel), List.mem_of_getElem? (i := 596) (by decide +kernel), List.mem_of_getElem? (i := 597) (by decide +kernel)⟩
theorem lw_p51 : lw_okq (⟨"ProxyVotes", "fewestToCarry", "(LProxyVotes$Item;I)I"⟩, 9) := ⟨⟨by decide +kernel, by decide +kernel⟩, List.mem_of_getElem? (i := 14) (by decide +kernel), List.mem_of_getElem? (i := 600) (by decide +kernel), List.mem_of_getElem? (i := 601) (by decide +kernel)⟩
theorem lw_p52 : lw_okq (⟨"ProxyVotes", "gainOf", "(I)I"⟩, 9) := ⟨⟨by decide +kernel, by decide +kernel⟩, List.mem_of_getElem? (i := 14) (by decide +kernel), List.mem_of_getElem? (i := 605) (by decide +kernel), List.mem_of_getElem? (i := 606) (by decide +kernel)⟩
theorem lw_p53 : lw_okq (⟨"ProxyVotes", "countSetsWithout", "(I)V"⟩, 9) := ⟨⟨by decide +kernel, by decide +kernel⟩, List.mem_of_getElem? (i := 14) (by decide +kernel), List.mem_of_getElem? (i := 613) (by decide +kernel), List.mem_of_getElem? (i := 614) (by decide +kernel)⟩
theorem lw_p54 : lw_okq (⟨"ProxyVotes$Committee", "nextTurn", "()I"⟩, 11) := ⟨⟨by decide +kernel, by decide +kernel⟩, List.mem_of_getElem? (i := 22) (by decide +kernel), List.mem_of_getElem? (i := 622) (by decide +kernel), List.mem_of_getElem? (i := 623) (by decide +kernel)⟩
theorem lw_p55 : lw_okq (⟨"ProxyVotes$Pad", "append", "(J)I"⟩, 7) := ⟨⟨by decide +kernel, by decide +kernel⟩, List.mem_of_getElem? (i := 204) (by decide +kernel), List.mem_of_getElem? (i := 636) (by decide +kernel), List.mem_of_getElem? (i := 637) (by decide +kernel)⟩
theorem lw_p56 : lw_okq (⟨"ProxyVotes$Pad", "empty", "()I"⟩, 7) := ⟨⟨by decide +kernel, by decide +kernel⟩, List.mem_of_getElem? (i := 204) (by decide +kernel), List.mem_of_getElem? (i := 647) (by decide +kernel), List.mem_of_getElem? (i := 648) (by decide +kernel)⟩
theorem lw_p57 : lw_okq (⟨"ProxyVotes$Pad", "read", "()I"⟩, 7) := ⟨⟨by decide +kernel, by decide +kernel⟩, List.mem_of_getElem? (i := 204) (by decide +kernel), List.mem_of_getElem? (i := 655) (by decide +kernel), List.mem_of_getElem? (i := 656) (by decide +kernel)⟩
theorem lw_p58 : lw_okq (⟨"ProxyVotes$Pad", "readOrder", "(I)Z"⟩, 7) := ⟨⟨by decide +kernel, by decide +kernel⟩, List.mem_of_getElem? (i := 204) (by decide +kernel), List.mem_of_getElem? (i := 659) (by decide +kernel), List.mem_of_getElem? (i := 660) (by decide +kernel)⟩
theorem lw_p59 : lw_okq (⟨"ProxyVotes$Pad", "ahead", "()C"⟩, 7) := ⟨⟨by decide +kernel, by decide +kernel⟩, List.mem_of_getElem? (i := 204) (by decide +kernel), List.mem_of_getElem? (i := 663) (by decide +kernel), List.mem_of_getElem? (i := 664) (by decide +kernel)⟩
theorem lw_p60 : lw_okq (⟨"ProxyVotes$Pad", "readMember", "(I)Z"⟩, 7) := ⟨⟨by decide +kernel, by decide +kernel⟩, List.mem_of_getElem? (i := 204) (by decide +kernel), List.mem_of_getElem? (i := 670) (by decide +kernel), List.mem_of_getElem? (i := 671) (by decide +kernel)⟩
theorem lw_p61 : lw_okq (⟨"ProxyVotes$Pad", "readNumber", "(I)Z"⟩, 7) := ⟨⟨by decide +kernel, by decide +kernel⟩, List.mem_of_getElem? (i := 204) (by decide +kernel), List.mem_of_getElem? (i := 674) (by decide +kernel), List.mem_of_getElem? (i := 675) (by decide +kernel)⟩
theorem lw_p62 : lw_okq (⟨"ProxyVotes$Pad", "readChoice", "(IC)Z"⟩, 7) := ⟨⟨by decide +kernel, by decide +kernel⟩, List.mem_of_getElem? (i := 204) (by decide +kernel), List.mem_of_getElem? (i := 681) (by decide +kernel), List.mem_of_getElem? (i := 682) (by decide +kernel)⟩
theorem lw_p63 : lw_okq (⟨"ProxyVotes", "carry", "(I)I"⟩, 9) := ⟨⟨by decide +kernel, by decide +kernel⟩, List.mem_of_getElem? (i := 14) (by decide +kernel), List.mem_of_getElem? (i := 689) (by decide +kernel), List.mem_of_getElem? (i := 690) (by decide +kernel)⟩
def lw_privs_4 : List (MethodName × Nat) := [(⟨"ProxyVotes$Committee", "itemsIn", "(I)I"⟩, 11), (⟨"ProxyVotes", "canTurn", "(ILProxyVotes$Item;I)Z"⟩, 9), (⟨"ProxyVotes", "findGains", "(LProxyVotes$Item;)I"⟩, 9), (⟨"ProxyVotes", "fewestToCarry", "(LProxyVotes$Item;I)I"⟩, 9), (⟨"ProxyVotes", "gainOf", "(I)I"⟩, 9), (⟨"ProxyVotes", "countSetsWithout", "(I)V"⟩, 9), (⟨"ProxyVotes$Committee", "nextTurn", "()I"⟩, 11), (⟨"ProxyVotes$Pad", "append", "(J)I"⟩, 7), (⟨"ProxyVotes$Pad", "empty", "()I"⟩, 7), (⟨"ProxyVotes$Pad", "read", "()I"⟩, 7), (⟨"ProxyVotes$Pad", "readOrder", "(I)Z"⟩, 7), (⟨"ProxyVotes$Pad", "ahead", "()C"⟩, 7), (⟨"ProxyVotes$Pad", "readMember", "(I)Z"⟩, 7), (⟨"ProxyVotes$Pad", "readNumber", "(I)Z"⟩, 7), (⟨"ProxyVotes$Pad", "readChoice", "(IC)Z"⟩, 7), (⟨"ProxyVotes", "carry", "(I)I"⟩, 9)]
theorem lw_r4 : ∀ q ∈ lw_privs_4, lw_okq q := List.forall_mem_cons.mpr ⟨lw_p48, List.forall_mem_cons.mpr ⟨lw_p49, List.forall_mem_cons.mpr ⟨lw_p50, List.forall_mem_cons.mpr ⟨lw_p51, List.forall_mem_cons.mpr ⟨lw_p52, List.forall_mem_cons.mpr ⟨lw_p53, List.forall_mem_cons.mpr ⟨lw_p54, List.forall_mem_cons.mpr ⟨lw_p55, List.forall_mem_cons.mpr ⟨lw_p56, List.forall_mem_cons.mpr ⟨lw_p57, List.forall_mem_cons.mpr ⟨lw_p58, List.forall_mem_cons.mpr ⟨lw_p59, List.forall_mem_cons.mpr ⟨lw_p60, List.forall_mem_cons.mpr ⟨lw_p61, List.forall_mem_cons.mpr ⟨lw_p62, List.forall_mem_cons.mpr ⟨lw_p63, fun _ h => absurd h List.not_mem_nil⟩⟩⟩⟩⟩⟩⟩⟩⟩⟩⟩⟩⟩⟩⟩⟩
theorem lw_p64 : lw_okq (⟨"ProxyVotes$History", "takeBack", "(LProxyVotes$Committee;)I"⟩, 3) := ⟨⟨by decide +kernel, by decide +kernel⟩, List.mem_of_getElem? (i := 184) (by decide +kernel), List.mem_of_getElem? (i := 698) (by decide +kernel), List.mem_of_getElem? (i := 699) (by decide +kernel)⟩
theorem lw_p65 : lw_okq (⟨"ProxyVotesModel", "record", "()V"⟩, 16) := ⟨⟨by decide +kernel, by decide +kernel⟩, List.mem_of_getElem? (i := 710) (by decide +kernel), List.mem_of_getElem? (i := 772) (by decide +kernel), List.mem_of_getElem? (i := 773) (by decide +kernel)⟩
theorem lw_p66 : lw_okq (⟨"ProxyVotesModel", "isMember", "(I)Z"⟩, 16) := ⟨⟨by decide +kernel, by decide +kernel⟩, List.mem_of_getElem? (i := 710) (by decide +kernel), List.mem_of_getElem? (i := 788) (by decide +kernel), List.mem_of_getElem? (i := 789) (by decide +kernel)⟩
theorem lw_p67 : lw_okq (⟨"ProxyVotesModel", "turnTo", "(II)I"⟩, 16) := ⟨⟨by decide +kernel, by decide +kernel⟩, List.mem_of_getElem? (i := 710) (by decide +kernel), List.mem_of_getElem? (i := 796) (by decide +kernel), List.mem_of_getElem? (i := 797) (by decide +kernel)⟩
theorem lw_p68 : lw_okq (⟨"ProxyVotesModel", "ofOne", "(II)I"⟩, 16) := ⟨⟨by decide +kernel, by decide +kernel⟩, List.mem_of_getElem? (i := 710) (by decide +kernel), List.mem_of_getElem? (i := 800) (by decide +kernel), List.mem_of_getElem? (i := 801) (by decide +kernel)⟩
theorem lw_p69 : lw_okq (⟨"ProxyVotesModel", "present", "()I"⟩, 16) := ⟨⟨by decide +kernel, by decide +kernel⟩, List.mem_of_getElem? (i := 710) (by decide +kernel), List.mem_of_getElem? (i := 804) (by decide +kernel), List.mem_of_getElem? (i := 805) (by decide +kernel)⟩
theorem lw_p70 : lw_okq (⟨"ProxyVotesModel", "isPresent", "(I)Z"⟩, 16) := ⟨⟨by decide +kernel, by decide +kernel⟩, List.mem_of_getElem? (i := 710) (by decide +kernel), List.mem_of_getElem? (i := 808) (by decide +kernel), List.mem_of_getElem? (i := 809) (by decide +kernel)⟩
theorem lw_p71 : lw_okq (⟨"ProxyVotesModel", "isItem", "(I)Z"⟩, 16) := ⟨⟨by decide +kernel, by decide +kernel⟩, List.mem_of_getElem? (i := 710) (by decide +kernel), List.mem_of_getElem? (i := 827) (by decide +kernel), List.mem_of_getElem? (i := 828) (by decide +kernel)⟩
theorem lw_p72 : lw_okq (⟨"ProxyVotesModel", "isAhead", "(I)Z"⟩, 16) := ⟨⟨by decide +kernel, by decide +kernel⟩, List.mem_of_getElem? (i := 710) (by decide +kernel), List.mem_of_getElem? (i := 835) (by decide +kernel), List.mem_of_getElem? (i := 836) (by decide +kernel)⟩
theorem lw_p73 : lw_okq (⟨"ProxyVotesModel", "stateOf", "(I)I"⟩, 16) := ⟨⟨by decide +kernel, by decide +kernel⟩, List.mem_of_getElem? (i := 710) (by decide +kernel), List.mem_of_getElem? (i := 839) (by decide +kernel), List.mem_of_getElem? (i := 840) (by decide +kernel)⟩
theorem lw_p74 : lw_okq (⟨"ProxyVotesModel", "isRecused", "(II)Z"⟩, 16) := ⟨⟨by decide +kernel, by decide +kernel⟩, List.mem_of_getElem? (i := 710) (by decide +kernel), List.mem_of_getElem? (i := 847) (by decide +kernel), List.mem_of_getElem? (i := 848) (by decide +kernel)⟩
theorem lw_p75 : lw_okq (⟨"ProxyVotesModel", "itemIn", "(I)I"⟩, 16) := ⟨⟨by decide +kernel, by decide +kernel⟩, List.mem_of_getElem? (i := 710) (by decide +kernel), List.mem_of_getElem? (i := 858) (by decide +kernel), List.mem_of_getElem? (i := 859) (by decide +kernel)⟩
theorem lw_p76 : lw_okq (⟨"ProxyVotesModel", "isQuorum", "(I)Z"⟩, 16) := ⟨⟨by decide +kernel, by decide +kernel⟩, List.mem_of_getElem? (i := 710) (by decide +kernel), List.mem_of_getElem? (i := 862) (by decide +kernel), List.mem_of_getElem? (i := 863) (by decide +kernel)⟩
theorem lw_p77 : lw_okq (⟨"ProxyVotesModel", "weightThere", "(I)I"⟩, 16) := ⟨⟨by decide +kernel, by decide +kernel⟩, List.mem_of_getElem? (i := 710) (by decide +kernel), List.mem_of_getElem? (i := 866) (by decide +kernel), List.mem_of_getElem? (i := 867) (by decide +kernel)⟩
theorem lw_p78 : lw_okq (⟨"ProxyVotesModel", "layVoices", "(I)V"⟩, 16) := ⟨⟨by decide +kernel, by decide +kernel⟩, List.mem_of_getElem? (i := 710) (by decide +kernel), List.mem_of_getElem? (i := 870) (by decide +kernel), List.mem_of_getElem? (i := 871) (by decide +kernel)⟩
theorem lw_p79 : lw_okq (⟨"ProxyVotesModel", "endOf", "(II)I"⟩, 16) := ⟨⟨by decide +kernel, by decide +kernel⟩, List.mem_of_getElem? (i := 710) (by decide +kernel), List.mem_of_getElem? (i := 874) (by decide +kernel), List.mem_of_getElem? (i := 875) (by decide +kernel)⟩
def lw_privs_5 : List (MethodName × Nat) := [(⟨"ProxyVotes$History", "takeBack", "(LProxyVotes$Committee;)I"⟩, 3), (⟨"ProxyVotesModel", "record", "()V"⟩, 16), (⟨"ProxyVotesModel", "isMember", "(I)Z"⟩, 16), (⟨"ProxyVotesModel", "turnTo", "(II)I"⟩, 16), (⟨"ProxyVotesModel", "ofOne", "(II)I"⟩, 16), (⟨"ProxyVotesModel", "present", "()I"⟩, 16), (⟨"ProxyVotesModel", "isPresent", "(I)Z"⟩, 16), (⟨"ProxyVotesModel", "isItem", "(I)Z"⟩, 16), (⟨"ProxyVotesModel", "isAhead", "(I)Z"⟩, 16), (⟨"ProxyVotesModel", "stateOf", "(I)I"⟩, 16), (⟨"ProxyVotesModel", "isRecused", "(II)Z"⟩, 16), (⟨"ProxyVotesModel", "itemIn", "(I)I"⟩, 16), (⟨"ProxyVotesModel", "isQuorum", "(I)Z"⟩, 16), (⟨"ProxyVotesModel", "weightThere", "(I)I"⟩, 16), (⟨"ProxyVotesModel", "layVoices", "(I)V"⟩, 16), (⟨"ProxyVotesModel", "endOf", "(II)I"⟩, 16)]
theorem lw_r5 : ∀ q ∈ lw_privs_5, lw_okq q := List.forall_mem_cons.mpr ⟨lw_p64, List.forall_mem_cons.mpr ⟨lw_p65, List.forall_mem_cons.mpr ⟨lw_p66, List.forall_mem_cons.mpr ⟨lw_p67, List.forall_mem_cons.mpr ⟨lw_p68, List.forall_mem_cons.mpr ⟨lw_p69, List.forall_mem_cons.mpr ⟨lw_p70, List.forall_mem_cons.mpr ⟨lw_p71, List.forall_mem_cons.mpr ⟨lw_p72, List.forall_mem_cons.mpr ⟨lw_p73, List.forall_mem_cons.mpr ⟨lw_p74, List.forall_mem_cons.mpr ⟨lw_p75, List.forall_mem_cons.mpr ⟨lw_p76, List.forall_mem_cons.mpr ⟨lw_p77, List.forall_mem_cons.mpr ⟨lw_p78, List.forall_mem_cons.mpr ⟨lw_p79, fun _ h => absurd h List.not_mem_nil⟩⟩⟩⟩⟩⟩⟩⟩⟩⟩⟩⟩⟩⟩⟩⟩
theorem lw_p80 : lw_okq (⟨"ProxyVotesModel", "holderOf", "(II)I"⟩, 16) := ⟨⟨by decide +kernel, by decide +kernel⟩, List.mem_of_getElem? (i := 710) (by decide +kernel), List.mem_of_getElem? (i := 878) (by decide +kernel), List.mem_of_getElem? (i := 879) (by decide +kernel)⟩
theorem lw_p81 : lw_okq (⟨"ProxyVotesModel", "pair", "(III)I"⟩, 16) := ⟨⟨by decide +kernel, by decide +kernel⟩, List.mem_of_getElem? (i := 710) (by decide +kernel), List.mem_of_getElem? (i := 882) (by decide +kernel), List.mem_of_getElem? (i := 883) (by decide +kernel)⟩
theorem lw_p82 : lw_okq (⟨"ProxyVotesModel", "allWeight", "()I"⟩, 16) := ⟨⟨by decide +kernel, by decide +kernel⟩, List.mem_of_getElem? (i := 710) (by decide +kernel), List.mem_of_getElem? (i := 886) (by decide +kernel), List.mem_of_getElem? (i := 887) (by decide +kernel)⟩
theorem lw_p83 : lw_okq (⟨"ProxyVotesModel", "outcome", "(I)I"⟩, 16) := ⟨⟨by decide +kernel, by decide +kernel⟩, List.mem_of_getElem? (i := 710) (by decide +kernel), List.mem_of_getElem? (i := 898) (by decide +kernel), List.mem_of_getElem? (i := 899) (by decide +kernel)⟩
theorem lw_p84 : lw_okq (⟨"ProxyVotesModel", "count6", "(I)V"⟩, 16) := ⟨⟨by decide +kernel, by decide +kernel⟩, List.mem_of_getElem? (i := 710) (by decide +kernel), List.mem_of_getElem? (i := 902) (by decide +kernel), List.mem_of_getElem? (i := 903) (by decide +kernel)⟩
theorem lw_p85 : lw_okq (⟨"ProxyVotesModel", "wayOf", "(II)I"⟩, 16) := ⟨⟨by decide +kernel, by decide +kernel⟩, List.mem_of_getElem? (i := 710) (by decide +kernel), List.mem_of_getElem? (i := 906) (by decide +kernel), List.mem_of_getElem? (i := 907) (by decide +kernel)⟩
theorem lw_p86 : lw_okq (⟨"ProxyVotesModel", "chairNow", "()I"⟩, 16) := ⟨⟨by decide +kernel, by decide +kernel⟩, List.mem_of_getElem? (i := 710) (by decide +kernel), List.mem_of_getElem? (i := 914) (by decide +kernel), List.mem_of_getElem? (i := 915) (by decide +kernel)⟩
theorem lw_p87 : lw_okq (⟨"ProxyVotesModel", "nextMinute", "()V"⟩, 16) := ⟨⟨by decide +kernel, by decide +kernel⟩, List.mem_of_getElem? (i := 710) (by decide +kernel), List.mem_of_getElem? (i := 922) (by decide +kernel), List.mem_of_getElem? (i := 923) (by decide +kernel)⟩
theorem lw_p88 : lw_okq (⟨"ProxyVotesModel", "votesOf", "(I)I"⟩, 16) := ⟨⟨by decide +kernel, by decide +kernel⟩, List.mem_of_getElem? (i := 710) (by decide +kernel), List.mem_of_getElem? (i := 930) (by decide +kernel), List.mem_of_getElem? (i := 931) (by decide +kernel)⟩
theorem lw_p89 : lw_okq (⟨"ProxyVotesModel", "itemsIn", "(I)I"⟩, 16) := ⟨⟨by decide +kernel, by decide +kernel⟩, List.mem_of_getElem? (i := 710) (by decide +kernel), List.mem_of_getElem? (i := 946) (by decide +kernel), List.mem_of_getElem? (i := 947) (by decide +kernel)⟩
theorem lw_p90 : lw_okq (⟨"ProxyVotesModel", "canVote", "(II)Z"⟩, 16) := ⟨⟨by decide +kernel, by decide +kernel⟩, List.mem_of_getElem? (i := 710) (by decide +kernel), List.mem_of_getElem? (i := 958) (by decide +kernel), List.mem_of_getElem? (i := 959) (by decide +kernel)⟩
theorem lw_p91 : lw_okq (⟨"ProxyVotesModel", "isCarriedBy", "(II)Z"⟩, 16) := ⟨⟨by decide +kernel, by decide +kernel⟩, List.mem_of_getElem? (i := 710) (by decide +kernel), List.mem_of_getElem? (i := 966) (by decide +kernel), List.mem_of_getElem? (i := 967) (by decide +kernel)⟩
theorem lw_p92 : lw_okq (⟨"ProxyVotesModel", "keep", "()V"⟩, 16) := ⟨⟨by decide +kernel, by decide +kernel⟩, List.mem_of_getElem? (i := 710) (by decide +kernel), List.mem_of_getElem? (i := 978) (by decide +kernel), List.mem_of_getElem? (i := 979) (by decide +kernel)⟩
theorem lw_p93 : lw_okq (⟨"ProxyVotesModel", "comeBack", "()V"⟩, 16) := ⟨⟨by decide +kernel, by decide +kernel⟩, List.mem_of_getElem? (i := 710) (by decide +kernel), List.mem_of_getElem? (i := 982) (by decide +kernel), List.mem_of_getElem? (i := 983) (by decide +kernel)⟩
theorem lw_p94 : lw_okq (⟨"ProxyVotesModel", "faultOf", "()I"⟩, 16) := ⟨⟨by decide +kernel, by decide +kernel⟩, List.mem_of_getElem? (i := 710) (by decide +kernel), List.mem_of_getElem? (i := 1003) (by decide +kernel), List.mem_of_getElem? (i := 1004) (by decide +kernel)⟩
theorem lw_p95 : lw_okq (⟨"ProxyVotesModel", "readOne", "()V"⟩, 16) := ⟨⟨by decide +kernel, by decide +kernel⟩, List.mem_of_getElem? (i := 710) (by decide +kernel), List.mem_of_getElem? (i := 1007) (by decide +kernel), List.mem_of_getElem? (i := 1008) (by decide +kernel)⟩
def lw_privs_6 : List (MethodName × Nat) := [(⟨"ProxyVotesModel", "holderOf", "(II)I"⟩, 16), (⟨"ProxyVotesModel", "pair", "(III)I"⟩, 16), (⟨"ProxyVotesModel", "allWeight", "()I"⟩, 16), (⟨"ProxyVotesModel", "outcome", "(I)I"⟩, 16), (⟨"ProxyVotesModel", "count6", "(I)V"⟩, 16), (⟨"ProxyVotesModel", "wayOf", "(II)I"⟩, 16), (⟨"ProxyVotesModel", "chairNow", "()I"⟩, 16), (⟨"ProxyVotesModel", "nextMinute", "()V"⟩, 16), (⟨"ProxyVotesModel", "votesOf", "(I)I"⟩, 16), (⟨"ProxyVotesModel", "itemsIn", "(I)I"⟩, 16), (⟨"ProxyVotesModel", "canVote", "(II)Z"⟩, 16), (⟨"ProxyVotesModel", "isCarriedBy", "(II)Z"⟩, 16), (⟨"ProxyVotesModel", "keep", "()V"⟩, 16), (⟨"ProxyVotesModel", "comeBack", "()V"⟩, 16), (⟨"ProxyVotesModel", "faultOf", "()I"⟩, 16), (⟨"ProxyVotesModel", "readOne", "()V"⟩, 16)]
theorem lw_r6 : ∀ q ∈ lw_privs_6, lw_okq q := List.forall_mem_cons.mpr ⟨lw_p80, List.forall_mem_cons.mpr ⟨lw_p81, List.forall_mem_cons.mpr ⟨lw_p82, List.forall_mem_cons.mpr ⟨lw_p83, List.forall_mem_cons.mpr ⟨lw_p84, List.forall_mem_cons.mpr ⟨lw_p85, List.forall_mem_cons.mpr ⟨lw_p86, List.forall_mem_cons.mpr ⟨lw_p87, List.forall_mem_cons.mpr ⟨lw_p88, List.forall_mem_cons.mpr ⟨lw_p89, List.forall_mem_cons.mpr ⟨lw_p90, List.forall_mem_cons.mpr ⟨lw_p91, List.forall_mem_cons.mpr ⟨lw_p92, List.forall_mem_cons.mpr ⟨lw_p93, List.forall_mem_cons.mpr ⟨lw_p94, List.forall_mem_cons.mpr ⟨lw_p95, fun _ h => absurd h List.not_mem_nil⟩⟩⟩⟩⟩⟩⟩⟩⟩⟩⟩⟩⟩⟩⟩⟩
theorem lw_p96 : lw_okq (⟨"ProxyVotesModel", "sign", "()I"⟩, 16) := ⟨⟨by decide +kernel, by decide +kernel⟩, List.mem_of_getElem? (i := 710) (by decide +kernel), List.mem_of_getElem? (i := 1011) (by decide +kernel), List.mem_of_getElem? (i := 1012) (by decide +kernel)⟩
theorem lw_p97 : lw_okq (⟨"ProxyVotesModel", "number", "()I"⟩, 16) := ⟨⟨by decide +kernel, by decide +kernel⟩, List.mem_of_getElem? (i := 710) (by decide +kernel), List.mem_of_getElem? (i := 1015) (by decide +kernel), List.mem_of_getElem? (i := 1016) (by decide +kernel)⟩
theorem lw_p98 : lw_okq (⟨"ProxyVotesModel", "one", "(III)I"⟩, 16) := ⟨⟨by decide +kernel, by decide +kernel⟩, List.mem_of_getElem? (i := 710) (by decide +kernel), List.mem_of_getElem? (i := 1019) (by decide +kernel), List.mem_of_getElem? (i := 1020) (by decide +kernel)⟩
theorem lw_p99 : lw_okq (⟨"ProxyVotesModel", "carry", "(I)Z"⟩, 16) := ⟨⟨by decide +kernel, by decide +kernel⟩, List.mem_of_getElem? (i := 710) (by decide +kernel), List.mem_of_getElem? (i := 1027) (by decide +kernel), List.mem_of_getElem? (i := 1028) (by decide +kernel)⟩
def lw_privs_7 : List (MethodName × Nat) := [(⟨"ProxyVotesModel", "sign", "()I"⟩, 16), (⟨"ProxyVotesModel", "number", "()I"⟩, 16), (⟨"ProxyVotesModel", "one", "(III)I"⟩, 16), (⟨"ProxyVotesModel", "carry", "(I)Z"⟩, 16)]
theorem lw_r7 : ∀ q ∈ lw_privs_7, lw_okq q := List.forall_mem_cons.mpr ⟨lw_p96, List.forall_mem_cons.mpr ⟨lw_p97, List.forall_mem_cons.mpr ⟨lw_p98, List.forall_mem_cons.mpr ⟨lw_p99, fun _ h => absurd h List.not_mem_nil⟩⟩⟩⟩
def lw_privs : List (MethodName × Nat) := lw_privs_1 ++ (lw_privs_2 ++ (lw_privs_3 ++ (lw_privs_4 ++ (lw_privs_5 ++ (lw_privs_6 ++ (lw_privs_7))))))
def lw_tbl : List Cond := k2_sels lw_privs ++ tables_1
theorem lw_privs_ok : ∀ q ∈ lw_privs, lw_okq q := by
  show ∀ q ∈ lw_privs_1 ++ (lw_privs_2 ++ (lw_privs_3 ++ (lw_privs_4 ++ (lw_privs_5 ++ (lw_privs_6 ++ (lw_privs_7)))))), lw_okq q
  exact List.forall_mem_append.mpr ⟨lw_r1, List.forall_mem_append.mpr ⟨lw_r2, List.forall_mem_append.mpr ⟨lw_r3, List.forall_mem_append.mpr ⟨lw_r4, List.forall_mem_append.mpr ⟨lw_r5, List.forall_mem_append.mpr ⟨lw_r6, lw_r7⟩⟩⟩⟩⟩⟩
end
section
def RX0 : String := "ProxyVotes$Committee"
def TX0 : u_T := fun k => match k with
  | 0 => ("ProxyVotes$Committee", "minute", "I", false)
  | 1 => ("ProxyVotes$Committee", "memberCount", "I", false)
  | 2 => ("ProxyVotes$Committee", "itemCount", "I", false)
  | 3 => ("ProxyVotes$Committee", "present", "I", false)
  | 4 => ("ProxyVotes$Committee", "chairNamed", "I", false)
  | 5 => ("ProxyVotes$Committee", "settings", "[I", true)
  | 6 => ("ProxyVotes$Committee", "weights", "[I", true)
  | 7 => ("ProxyVotes$Committee", "groups", "[I", true)
  | 8 => ("ProxyVotes$Committee", "holders", "[I", true)
  | 9 => ("ProxyVotes$Committee", "items", "[LProxyVotes$Item;", true)
  | _ => ("ProxyVotes$Committee", "movements", "LProxyVotes$Movements;", true)
def tyX0 : Nat → FieldType := fun k => match k with
  | 0 => .int
  | 1 => .int
  | 2 => .int
  | 3 => .int
  | 4 => .int
  | 5 => .array .int
  | 6 => .array .int
  | 7 => .array .int
  | 8 => .array .int
  | 9 => .array (.object "ProxyVotes$Item")
  | _ => .object "ProxyVotes$Movements"
theorem nmX0 : ∀ a, a < 11 → ∀ b, b < 11 → a ≠ b → (TX0 a).2.1 ≠ (TX0 b).2.1 := by decide +kernel
theorem tyX0_ok : ∀ k, k < 11 → parseFieldDescriptor (TX0 k).2.2.1 = some (tyX0 k) := by decide +kernel
def RX1 : String := "ProxyVotes$Hearing"
def TX1 : u_T := fun k => match k with
  | 0 => ("ProxyVotes$Hearing", "speakers", "[I", true)
  | 1 => ("ProxyVotes$Hearing", "loads", "[I", true)
  | _ => ("ProxyVotes$Hearing", "sums", "[I", true)
def tyX1 : Nat → FieldType := fun k => match k with
  | 0 => .array .int
  | 1 => .array .int
  | _ => .array .int
theorem nmX1 : ∀ a, a < 3 → ∀ b, b < 3 → a ≠ b → (TX1 a).2.1 ≠ (TX1 b).2.1 := by decide +kernel
theorem tyX1_ok : ∀ k, k < 3 → parseFieldDescriptor (TX1 k).2.2.1 = some (tyX1 k) := by decide +kernel
def RX2 : String := "ProxyVotes$History"
def TX2 : u_T := fun k => match k with
  | 0 => ("ProxyVotes$History", "states", "[LProxyVotes$Committee;", true)
  | 1 => ("ProxyVotes$History", "spare", "I", false)
  | _ => ("ProxyVotes$History", "kept", "I", false)
def tyX2 : Nat → FieldType := fun k => match k with
  | 0 => .array (.object "ProxyVotes$Committee")
  | 1 => .int
  | _ => .int
theorem nmX2 : ∀ a, a < 3 → ∀ b, b < 3 → a ≠ b → (TX2 a).2.1 ≠ (TX2 b).2.1 := by decide +kernel
theorem tyX2_ok : ∀ k, k < 3 → parseFieldDescriptor (TX2 k).2.2.1 = some (tyX2 k) := by decide +kernel
def RX3 : String := "ProxyVotes$Item"
def TX3 : u_T := fun k => match k with
  | 0 => ("ProxyVotes$Item", "kind", "I", false)
  | 1 => ("ProxyVotes$Item", "touched", "I", false)
  | 2 => ("ProxyVotes$Item", "state", "I", false)
  | 3 => ("ProxyVotes$Item", "recusedByHand", "I", false)
  | 4 => ("ProxyVotes$Item", "breaker", "I", false)
  | 5 => ("ProxyVotes$Item", "timesPutOff", "I", false)
  | 6 => ("ProxyVotes$Item", "sums", "[I", true)
  | 7 => ("ProxyVotes$Item", "votes", "[I", true)
  | 8 => ("ProxyVotes$Item", "told", "[I", true)
  | _ => ("ProxyVotes$Item", "holders", "[I", true)
def tyX3 : Nat → FieldType := fun k => match k with
  | 0 => .int
  | 1 => .int
  | 2 => .int
  | 3 => .int
  | 4 => .int
  | 5 => .int
  | 6 => .array .int
  | 7 => .array .int
  | 8 => .array .int
  | _ => .array .int
theorem nmX3 : ∀ a, a < 10 → ∀ b, b < 10 → a ≠ b → (TX3 a).2.1 ≠ (TX3 b).2.1 := by decide +kernel
theorem tyX3_ok : ∀ k, k < 10 → parseFieldDescriptor (TX3 k).2.2.1 = some (tyX3 k) := by decide +kernel
def RX4 : String := "ProxyVotes$Movements"
def TX4 : u_T := fun k => match k with
  | 0 => ("ProxyVotes$Movements", "number", "I", false)
  | 1 => ("ProxyVotes$Movements", "minutes", "[I", true)
  | 2 => ("ProxyVotes$Movements", "movers", "[I", true)
  | _ => ("ProxyVotes$Movements", "comings", "[I", true)
def tyX4 : Nat → FieldType := fun k => match k with
  | 0 => .int
  | 1 => .array .int
  | 2 => .array .int
  | _ => .array .int
theorem nmX4 : ∀ a, a < 4 → ∀ b, b < 4 → a ≠ b → (TX4 a).2.1 ≠ (TX4 b).2.1 := by decide +kernel
theorem tyX4_ok : ∀ k, k < 4 → parseFieldDescriptor (TX4 k).2.2.1 = some (tyX4 k) := by decide +kernel
def RX5 : String := "ProxyVotes$Pad"
def TX5 : u_T := fun k => match k with
  | 0 => ("ProxyVotes$Pad", "text", "[C", true)
  | 1 => ("ProxyVotes$Pad", "length", "I", false)
  | 2 => ("ProxyVotes$Pad", "place", "I", false)
  | 3 => ("ProxyVotes$Pad", "orders", "I", false)
  | 4 => ("ProxyVotes$Pad", "signs", "[C", true)
  | 5 => ("ProxyVotes$Pad", "members", "[I", true)
  | _ => ("ProxyVotes$Pad", "numbers", "[I", true)
def tyX5 : Nat → FieldType := fun k => match k with
  | 0 => .array .char
  | 1 => .int
  | 2 => .int
  | 3 => .int
  | 4 => .array .char
  | 5 => .array .int
  | _ => .array .int
theorem nmX5 : ∀ a, a < 7 → ∀ b, b < 7 → a ≠ b → (TX5 a).2.1 ≠ (TX5 b).2.1 := by decide +kernel
theorem tyX5_ok : ∀ k, k < 7 → parseFieldDescriptor (TX5 k).2.2.1 = some (tyX5 k) := by decide +kernel
def RX6 : String := "ProxyVotes"
def TX6 : u_T := fun k => match k with
  | 0 => ("ProxyVotes", "now", "LProxyVotes$Committee;", true)
  | 1 => ("ProxyVotes", "trial", "LProxyVotes$Committee;", true)
  | 2 => ("ProxyVotes", "hearing", "LProxyVotes$Hearing;", true)
  | 3 => ("ProxyVotes", "history", "LProxyVotes$History;", true)
  | 4 => ("ProxyVotes", "pad", "LProxyVotes$Pad;", true)
  | 5 => ("ProxyVotes", "slots", "[LProxyVotes$Committee;", true)
  | 6 => ("ProxyVotes", "saved", "[Z", true)
  | 7 => ("ProxyVotes", "gains", "[I", true)
  | _ => ("ProxyVotes", "setsOfWeight", "[I", true)
def tyX6 : Nat → FieldType := fun k => match k with
  | 0 => .object "ProxyVotes$Committee"
  | 1 => .object "ProxyVotes$Committee"
  | 2 => .object "ProxyVotes$Hearing"
  | 3 => .object "ProxyVotes$History"
  | 4 => .object "ProxyVotes$Pad"
  | 5 => .array (.object "ProxyVotes$Committee")
  | 6 => .array .boolean
  | 7 => .array .int
  | _ => .array .int
theorem nmX6 : ∀ a, a < 9 → ∀ b, b < 9 → a ≠ b → (TX6 a).2.1 ≠ (TX6 b).2.1 := by decide +kernel
theorem tyX6_ok : ∀ k, k < 9 → parseFieldDescriptor (TX6 k).2.2.1 = some (tyX6 k) := by decide +kernel
def RX7 : String := "ProxyVotesModel"
def TX7 : u_T := fun k => match k with
  | 0 => ("ProxyVotesModel", "now", "[I", true)
  | 1 => ("ProxyVotesModel", "kept", "[I", true)
  | 2 => ("ProxyVotesModel", "history", "[I", true)
  | 3 => ("ProxyVotesModel", "undos", "I", false)
  | 4 => ("ProxyVotesModel", "saved", "[I", true)
  | 5 => ("ProxyVotesModel", "isSaved", "[Z", true)
  | 6 => ("ProxyVotesModel", "pad", "[I", true)
  | 7 => ("ProxyVotesModel", "signs", "I", false)
  | 8 => ("ProxyVotesModel", "isInText", "Z", false)
  | 9 => ("ProxyVotesModel", "voice", "[I", true)
  | 10 => ("ProxyVotesModel", "spoken", "[I", true)
  | 11 => ("ProxyVotesModel", "sum", "[I", true)
  | 12 => ("ProxyVotesModel", "orders", "[I", true)
  | 13 => ("ProxyVotesModel", "ordered", "I", false)
  | 14 => ("ProxyVotesModel", "place", "I", false)
  | _ => ("ProxyVotesModel", "isWrong", "Z", false)
def tyX7 : Nat → FieldType := fun k => match k with
  | 0 => .array .int
  | 1 => .array .int
  | 2 => .array .int
  | 3 => .int
  | 4 => .array .int
  | 5 => .array .boolean
  | 6 => .array .int
  | 7 => .int
  | 8 => .boolean
  | 9 => .array .int
  | 10 => .array .int
  | 11 => .array .int
  | 12 => .array .int
  | 13 => .int
  | 14 => .int
  | _ => .boolean
theorem nmX7 : ∀ a, a < 16 → ∀ b, b < 16 → a ≠ b → (TX7 a).2.1 ≠ (TX7 b).2.1 := by decide +kernel
theorem tyX7_ok : ∀ k, k < 16 → parseFieldDescriptor (TX7 k).2.2.1 = some (tyX7 k) := by decide +kernel
end
section
/-! THE FRAME: a small machine over lists of cells. A cell: its class's number (below 10) or 10 int[], 11 char[], 12 boolean[], 13 Item[], 14 Committee[]; its values. A reference is a cell's place in the list; 'retAddr k' stands for the read-only array k (0, 1: the two static ones, 2: the script). kJ: a frame at pc comes to the method's end with r and the cells g'. JM: a method's contract. -/
abbrev kE : Type := Nat × va_G × (Nat → ClassId) × (Nat → Nat × Nat × (Nat → Int32))
abbrev kC : Type := Nat × List Value
abbrev kM : Type := MethodName × ByteArray × Nat × Option FieldType × Nat × Nat × Nat × Nat
def kTv (E : kE) (v : Value) : Value := match v with
  | .ref i => .ref (E.1 + i)
  | .retAddr k => .ref (E.2.2.2 k).1
  | .int x => .int x
  | .long x => .long x
  | .float x => .float x
  | .double x => .double x
  | .null => .null
theorem kTv_cat (E : kE) (v : Value) : (kTv E v).category = v.category := by cases v <;> rfl
def kInt (v : Value) : Int32 := match v with
  | .int x => x
  | _ => 0
def kRef (E : kE) (v : Value) : Option Nat := match v with
  | .ref i => some (E.1 + i)
  | _ => none
def kTc (E : kE) (c : kC) : va_E := if c.1 < 10 then .inr (c.1, c.2.map (kTv E)) else if c.1 < 13 then .inl (E.2.2.1 (c.1 - 10), c.2.length, .inl (fun j => kInt (c.2.getD j .null))) else .inl (E.2.2.1 (c.1 - 10), c.2.length, .inr (.inr (.inr (.inr (fun j => kRef E (c.2.getD j .null))))))
def kWs (E : kE) (g : List kC) : va_W := g.mapIdx (fun i c => (E.1 + i, kTc E c))
theorem kWs_get (E : kE) (g : List kC) (i : Nat) : (kWs E g)[i]? = g[i]?.map (fun c => (E.1 + i, kTc E c)) := by
  simp [kWs, List.getElem?_mapIdx]
theorem kWs_at {E : kE} {g : List kC} {i : Nat} {c : kC} (h : g[i]? = some c) : (kWs E g)[i]? = some (E.1 + i, kTc E c) := by
  rw [kWs_get, h]; rfl
theorem kWs_set {E : kE} {g : List kC} {i : Nat} {c c0 : kC} (h : g[i]? = some c0) : kWs E (g.set i c) = (kWs E g).set i (E.1 + i, kTc E c) := by
  apply List.ext_getElem?
  intro j
  have hl : i < g.length := (List.getElem?_eq_some_iff.mp h).1
  rw [kWs_get, List.getElem?_set, List.getElem?_set]
  by_cases hj : i = j
  · subst hj
    have hl2 : i < (kWs E g).length := by simp [kWs, hl]
    simp [hl, hl2]
  · simp [hj, kWs_get]
theorem kWs_push (E : kE) (g : List kC) (c : kC) : kWs E (g ++ [c]) = kWs E g ++ [(E.1 + g.length, kTc E c)] := by
  simp [kWs]
abbrev kA (E : kE) : Nat → Prop := fun q => E.1 ≤ q
theorem kWs_D (E : kE) (g : List kC) : va_D (kA E) (kWs E g) := by
  have key : ∀ (k : Nat) (q : Nat × va_E), (kWs E g)[k]? = some q → q.1 = E.1 + k := by
    intro k q h
    rw [kWs_get] at h
    cases hc : g[k]? with
    | none => rw [hc] at h; cases h
    | some c => rw [hc] at h; cases h; rfl
  refine ⟨fun i j p q hp hq e => ?_, fun k q h => ?_⟩
  · rw [key i p hp, key j q hq] at e
    omega
  · show E.1 ≤ q.1
    rw [key k q h]
    omega
abbrev kCl : List vw_C := [(RX0, TX0, 11), (RX1, TX1, 3), (RX2, TX2, 3), (RX3, TX3, 10), (RX4, TX4, 4), (RX5, TX5, 7), (RX6, TX6, 9), (RX7, TX7, 16)]
def kTys (E : kE) : List (ClassId × FieldType) := [(E.2.2.1 0, .int), (E.2.2.1 1, .char), (E.2.2.1 2, .boolean), (E.2.2.1 3, .object RX3), (E.2.2.1 4, .object RX0)]
def kWG : List Cond := lw_tbl.filter goodWord
def kIsNest (w : Cond) : Bool := match w with
  | .fieldLinkNest .. => true
  | .methodLinkNest .. => true
  | _ => false
def kNest : List Cond := lw_tbl.filter kIsNest
/-- what holds of the tables and of the read-only arrays at a method's entry -/
def kEnv (E : kE) (U : State) : Prop := va_K E.2.1 kCl (kTys E) U ∧ (∀ w ∈ kNest, va_Nw w U) ∧ (va_AO RX3 U ∧ va_AO RX0 U) ∧ (∀ k, k < 3 → va_X (E.2.2.2 k).1 (E.2.2.2 k).2.1 (E.2.2.2 k).2.2 U U.heap ∧ (E.2.2.2 k).1 < E.1) ∧ (va_Z RX6 "FIRST_VALUES" "[I" (.ref (E.2.2.2 0).1) (kA E) U U.heap ∧ va_Z RX6 "HIGHEST_VALUES" "[I" (.ref (E.2.2.2 1).1) (kA E) U U.heap) ∧ E.1 ≤ U.heap.size
theorem kNest_is {w : Cond} (h : w ∈ kNest) : kIsNest w = true := (List.mem_filter.mp h).2
theorem kEnv.moved {E : kE} {u U : State} (h : kEnv E u) (hal : u.vm.Alike U.vm) (hn : ∀ w ∈ kNest, va_Nw w u → va_Nw w U) (hz : u.heap.size ≤ U.heap.size) (hk : ∀ q : Nat, q < u.heap.size → ¬ kA E q → U.heap[q]? = u.heap[q]?) : kEnv E U := by
  obtain ⟨h1, h2, h3, h4, h5, h6⟩ := h
  refine ⟨va_K.moved hal h1, fun w hw => hn w hw (h2 w hw), ⟨h3.1.moved hal, h3.2.moved hal⟩, fun k hk3 => ?_, ⟨?_, ?_⟩, Nat.le_trans h6 hz⟩
  · obtain ⟨a, b⟩ := h4 k hk3
    exact ⟨(a.moved hal).kept (hk _ (Nat.lt_of_lt_of_le b h6) (Nat.not_le.mpr b)), b⟩
  · exact (h5.1.moved hal).kept (fun a ha hb => hk a ha hb)
  · exact (h5.2.moved hal).kept (fun a ha hb => hk a ha hb)
theorem kNw_warm {w : Cond} (hw : w ∈ kNest) {s U : State} (hW : s.WarmedH U.vm) (h : va_Nw w s) : va_Nw w U := by
  have hn := kNest_is hw
  cases w <;> first | exact va_Nw.warmF hW h | exact va_Nw.warmM hW h | (simp [kIsNest] at hn)
theorem kNw_same {w : Cond} (hw : w ∈ kNest) {u U : State} (e : u.vm = U.vm) (h : va_Nw w u) : va_Nw w U := by
  have hn := kNest_is hw
  cases w <;> first | exact va_Nw.same rfl e h | (simp [kIsNest] at hn)
theorem kEnv.warm {E : kE} {s U : State} {locs : List Loc} (h : kEnv E s) (hW : s.WarmedH U.vm) (hS : va_S (kA E) s.heap U.heap locs) : kEnv E U :=
  h.moved hW.alike (fun _ hw hn => kNw_warm hw hW hn) hS.1 (fun q h1 h2 => hS.2.1 q h1 h2)
theorem kEnv.same {E : kE} {u U : State} (h : kEnv E u) (e : u.vm = U.vm) (eh : u.heap = U.heap) : kEnv E U :=
  h.moved (by rw [e]; exact Vm.Alike.refl U.vm) (fun _ hw hn => kNw_same hw e hn) (by rw [eh]; exact Nat.le_refl _) (fun q _ _ => by rw [eh])
/-- the cells of the heap -/
def kW (E : kE) (g : List kC) (H : Heap) : Prop := va_P E.2.1 kCl (kWs E g) H ∧ H.size = E.1 + g.length
theorem kW.put {E : kE} {g : List kC} {i : Nat} {c0 c : kC} {H H1 : Heap} (h : kW E g H) (hi : g[i]? = some c0) (z : H1.size = H.size) (oq : ∀ q : Nat, q ≠ E.1 + i → H1[q]? = H[q]?) (hc : va_at E.2.1 kCl (E.1 + i, kTc E c) H1) : kW E (g.set i c) H1 := by
  refine ⟨?_, by rw [z, h.2, List.length_set]⟩
  rw [kWs_set hi]
  exact h.1.set (kWs_D E g) (kWs_at hi) hc oq
theorem kW.push {E : kE} {g : List kC} {c : kC} {H H1 : Heap} (h : kW E g H) (z : H1.size = H.size + 1) (oq : ∀ q : Nat, q < H.size → H1[q]? = H[q]?) (hc : va_at E.2.1 kCl (H.size, kTc E c) H1) : kW E (g ++ [c]) H1 := by
  refine ⟨?_, by rw [z, h.2, List.length_append]; rfl⟩
  rw [kWs_push, ← h.2]
  refine (h.1.kept (fun k x hx => oq x.1 ((h.1 k x hx).lt))).app (fun k x hx => ?_)
  have hz : k < 1 := (List.getElem?_eq_some_iff.mp hx).1
  rw [show k = 0 by omega] at hx
  cases hx
  exact hc
abbrev kY (M : kM) : MethodName := M.1
abbrev kB (M : kM) : ByteArray := M.2.1
abbrev kL (M : kM) : Nat := M.2.2.1
abbrev kR (M : kM) : Option FieldType := M.2.2.2.1
abbrev kMC (M : kM) : Nat := M.2.2.2.2.2.1
abbrev kMS (M : kM) : Nat := M.2.2.2.2.2.2.1
abbrev krm (M : kM) : Room := { frames := M.2.2.2.2.1, cells := M.2.2.2.2.2.1, slots := M.2.2.2.2.2.2.1, locals := M.2.2.2.2.2.2.2 }
def kws (M : kM) : List Cond := .code (kY M) (kB M) (kL M) (kR M) :: kWG
def kPre (E : kE) (g : List kC) (av : List Value) : Array Value → State → Prop := va_Pc (av.map (kTv E)) (fun U => kEnv E U ∧ kW E g U.heap)
def kPost (E : kE) (r : Option Int32) (g' : List kC) : Array Value → State → Outcome → State → Prop := fun _ st oc t => (oc = .returned (r.map Value.int) ∧ kW E g' t.heap) ∧ va_F (kA E) st t
/-- a method's contract: called with av over the cells g, it returns r and leaves the cells g' -/
def JM (E : kE) (M : kM) (av : List Value) (g : List kC) (r : Option Int32) (g' : List kC) : Prop := ∀ l : Launch, Met l (kY M) (kws M) (krm M) (kPre E g av) (kPost E r g') (kMC M) (kMS M) (kA E)
theorem kPre_blind (E : kE) (g : List kC) (av : List Value) : FrameBlind (kPre E g av) := by
  intro a U f mk h
  obtain ⟨h1, h2, h3⟩ := h
  exact ⟨h1, h2.same rfl rfl, h3⟩
def kFr (E : kE) (M : kM) (p : Program) (s : State) (m : MethodId) (args : Array Value) (meth : Method) (c : Code) : Prop :=
  p.tables.exec = Jvm.exec ∧ c.code = kB M ∧ c.maxLocals = kL M ∧ meth.sig.returnType = kR M ∧ meth.locks = false ∧ s.vm.findClass (kY M).cls = some m.cls ∧ (∀ w ∈ kWG, w.before args s = true) ∧ meth.name = (kY M).name ∧ kEnv E s
def kEx (E : kE) (M : kM) (r : Option Int32) (g' : List kC) (p : Program) (l : Launch) (e : Env) (R : Room) (s : State) (m : MethodId) (args : Array Value) (below : List Frame) (meth : Method) (c : Code) (PQ : State → Prop) : Prop :=
  ∀ (H : Heap) (locs : List Loc) (pc : Nat) (ls : Array Slot) (fc fs : Nat), kW E g' H → va_S (kA E) s.heap H locs → fc ≤ kMC M → fs ≤ kMS M → ((r = none ∧ kR M = none ∧ decode (kB M) pc = .ok (.return_, 1)) ∨ (∃ v ty, r = some v ∧ kR M = some ty ∧ narrow ty (.int v) = .int v ∧ decode (kB M) pc = .ok (.ireturn, 1))) →
    W p l e R s m args below meth c H locs fc fs PQ (F0 m pc ls (r.map Value.int).toList)
abbrev kLv : Type := List (Nat × Value)
def kTl (E : kE) (lv : kLv) : kLv := lv.map (fun q => (q.1, kTv E q.2))
/-- a frame of the method M, at pc, comes to its end with r and the cells g' -/
def kJ (E : kE) (M : kM) (r : Option Int32) (g' : List kC) (fc fs pc : Nat) (lv : kLv) (st : List Value) (g : List kC) : Prop :=
  ∀ (p : Program) (l : Launch) (e : Env) (s : State) (m : MethodId) (args : Array Value) (below : List Frame) (meth : Method) (c : Code), kFr E M p s m args meth c →
  ∀ (R : Room), R = krm M → ∀ (PQ : State → Prop), kEx E M r g' p l e R s m args below meth c PQ →
  ∀ (H : Heap) (locs : List Loc) (ls : Array Slot), lv_has ls (kL M) (kTl E lv) → kW E g H → va_S (kA E) s.heap H locs →
  W p l e R s m args below meth c H locs fc fs PQ (F0 m pc ls (st.map (kTv E)))
theorem kTl_args (E : kE) : ∀ (i : Nat) (av : List Value), lv_args i (av.map (kTv E)) = kTl E (lv_args i av)
  | _, [] => rfl
  | i, v :: vs => by
    simp only [List.map_cons, lv_args, kTl, kTv_cat]
    rw [kTl_args E]
    rfl
theorem lg_sl_kTv (E : kE) (av : List Value) : (lg_sl (av.map (kTv E))).length = (lg_sl av).length := by
  induction av with
  | nil => rfl
  | cons v vs ih => cases v <;> simp_all [lg_sl, kTv, Value.category]
theorem JM.of {E : kE} {M : kM} {av : List Value} {g : List kC} {r : Option Int32} {g' : List kC} (hp : plainName (kY M).cls = true) (hn : (lg_sl av).length ≤ kL M) (k : kJ E M r g' 0 0 0 (lv_args 0 av) [] g) : JM E M av g r g' := by
  intro l
  refine Met.ofW (ws := kws M) (ws' := kWG) (cc := kB M) (maxL := kL M) (ret := kR M) hp rfl ?_
  intro p e s m args below meth c s₁ B hml hv
  obtain ⟨rfl, hE, hW⟩ := hv
  have hts := atoms_spec (ws := kws M) B.pre
  have hlk : meth.locks = false := B.notSynchronized
  have hl := lv_entry (av.map (kTv E)) (n := kL M) (by rw [lg_sl_kTv]; exact hn)
  rw [kTl_args] at hl
  rw [lg_entry_eq]
  refine k p l e s m _ below meth c ⟨B.exec, B.bytes, hml, B.returns, hlk, findClass_of_methodNamed B.named, fun w hw => hts w (List.mem_cons_of_mem _ hw), (name_of_methodNamed B.named B.method).1, hE⟩ (krm M) rfl _ ?_ s.heap [] _ hl hW va_S.rf
  intro H locs pc ls fc fs hW2 hS hfc hfs hd
  refine W.widen (k := kMC M) (n := kMS M) hfc hfs ?_
  rcases hd with ⟨rfl, hr, hd⟩ | ⟨v, ty, rfl, hr, hnw, hd⟩
  · exact W.vret B.exec B.bytes (B.returns.trans hr) (fun t ht hWt => ⟨⟨rfl, by rw [ht]; exact hW2⟩, hS.F ht⟩) (fun q hq => hS.2.2 q hq) hd
  · exact W.zret B.exec B.bytes (B.returns.trans hr) hnw (fun t ht hWt => ⟨⟨rfl, by rw [ht]; exact hW2⟩, hS.F ht⟩) (fun q hq => hS.2.2 q hq) hd
end
