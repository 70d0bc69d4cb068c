section
-- ===== PART A: goes FIRST, ahead of the names: the tables' words, and 'selects' of the private methods out of them =====
/-- a private method of a class that the tables say can be made, by its rows of tables_1 -/
def lw_okq (q : MethodName × Nat) : Prop := (q.1.cls ≠ "java/lang/invoke/MethodHandle" ∧ q.1.cls ≠ "java/lang/invoke/VarHandle") ∧ Cond.instantiable q.1.cls q.2 ∈ tables_1 ∧ Cond.privateMethod q.1 ∈ tables_1 ∧ Cond.instanceMethod q.1 ∈ tables_1
theorem lw_p0 : lw_okq (⟨"ProxyVotes$History", "note", "(LProxyVotes$Committee;)V"⟩, 3) := ⟨⟨by decide +kernel, by decide +kernel⟩, List.mem_of_getElem? (i := 184) (by decide +kernel), List.mem_of_getElem? (i := 271) (by decide +kernel), List.mem_of_getElem? (i := 272) (by decide +kernel)⟩
theorem lw_p1 : lw_okq (⟨"ProxyVotes$Committee", "copyFrom", "(LProxyVotes$Committee;)V"⟩, 11) := ⟨⟨by decide +kernel, by decide +kernel⟩, List.mem_of_getElem? (i := 22) (by decide +kernel), List.mem_of_getElem? (i := 275) (by decide +kernel), List.mem_of_getElem? (i := 276) (by decide +kernel)⟩
theorem lw_p2 : lw_okq (⟨"ProxyVotes$Item", "copyFrom", "(LProxyVotes$Item;)V"⟩, 10) := ⟨⟨by decide +kernel, by decide +kernel⟩, List.mem_of_getElem? (i := 59) (by decide +kernel), List.mem_of_getElem? (i := 279) (by decide +kernel), List.mem_of_getElem? (i := 280) (by decide +kernel)⟩
theorem lw_p3 : lw_okq (⟨"ProxyVotes$Movements", "copyFrom", "(LProxyVotes$Movements;)V"⟩, 4) := ⟨⟨by decide +kernel, by decide +kernel⟩, List.mem_of_getElem? (i := 30) (by decide +kernel), List.mem_of_getElem? (i := 284) (by decide +kernel), List.mem_of_getElem? (i := 285) (by decide +kernel)⟩
theorem lw_p4 : lw_okq (⟨"ProxyVotes$Committee", "changeSetting", "(II)I"⟩, 11) := ⟨⟨by decide +kernel, by decide +kernel⟩, List.mem_of_getElem? (i := 22) (by decide +kernel), List.mem_of_getElem? (i := 289) (by decide +kernel), List.mem_of_getElem? (i := 290) (by decide +kernel)⟩
theorem lw_p5 : lw_okq (⟨"ProxyVotes$History", "settle", "(I)I"⟩, 3) := ⟨⟨by decide +kernel, by decide +kernel⟩, List.mem_of_getElem? (i := 184) (by decide +kernel), List.mem_of_getElem? (i := 295) (by decide +kernel), List.mem_of_getElem? (i := 296) (by decide +kernel)⟩
theorem lw_p6 : lw_okq (⟨"ProxyVotes$Committee", "addMember", "(II)I"⟩, 11) := ⟨⟨by decide +kernel, by decide +kernel⟩, List.mem_of_getElem? (i := 22) (by decide +kernel), List.mem_of_getElem? (i := 309) (by decide +kernel), List.mem_of_getElem? (i := 310) (by decide +kernel)⟩
theorem lw_p7 : lw_okq (⟨"ProxyVotes$Committee", "addItem", "(II)I"⟩, 11) := ⟨⟨by decide +kernel, by decide +kernel⟩, List.mem_of_getElem? (i := 22) (by decide +kernel), List.mem_of_getElem? (i := 317) (by decide +kernel), List.mem_of_getElem? (i := 318) (by decide +kernel)⟩
theorem lw_p8 : lw_okq (⟨"ProxyVotes$Item", "begin", "(II)V"⟩, 10) := ⟨⟨by decide +kernel, by decide +kernel⟩, List.mem_of_getElem? (i := 59) (by decide +kernel), List.mem_of_getElem? (i := 321) (by decide +kernel), List.mem_of_getElem? (i := 322) (by decide +kernel)⟩
theorem lw_p9 : lw_okq (⟨"ProxyVotes$Committee", "nameChair", "(I)I"⟩, 11) := ⟨⟨by decide +kernel, by decide +kernel⟩, List.mem_of_getElem? (i := 22) (by decide +kernel), List.mem_of_getElem? (i := 332) (by decide +kernel), List.mem_of_getElem? (i := 333) (by decide +kernel)⟩
theorem lw_p10 : lw_okq (⟨"ProxyVotes$Committee", "hasMember", "(I)Z"⟩, 11) := ⟨⟨by decide +kernel, by decide +kernel⟩, List.mem_of_getElem? (i := 22) (by decide +kernel), List.mem_of_getElem? (i := 336) (by decide +kernel), List.mem_of_getElem? (i := 337) (by decide +kernel)⟩
theorem lw_p11 : lw_okq (⟨"ProxyVotes$Committee", "bringIn", "(I)I"⟩, 11) := ⟨⟨by decide +kernel, by decide +kernel⟩, List.mem_of_getElem? (i := 22) (by decide +kernel), List.mem_of_getElem? (i := 344) (by decide +kernel), List.mem_of_getElem? (i := 345) (by decide +kernel)⟩
theorem lw_p12 : lw_okq (⟨"ProxyVotes$Committee", "isPresent", "(I)Z"⟩, 11) := ⟨⟨by decide +kernel, by decide +kernel⟩, List.mem_of_getElem? (i := 22) (by decide +kernel), List.mem_of_getElem? (i := 348) (by decide +kernel), List.mem_of_getElem? (i := 349) (by decide +kernel)⟩
theorem lw_p13 : lw_okq (⟨"ProxyVotes$Committee", "sendAway", "(I)I"⟩, 11) := ⟨⟨by decide +kernel, by decide +kernel⟩, List.mem_of_getElem? (i := 22) (by decide +kernel), List.mem_of_getElem? (i := 362) (by decide +kernel), List.mem_of_getElem? (i := 363) (by decide +kernel)⟩
theorem lw_p14 : lw_okq (⟨"ProxyVotes$Committee", "addMovement", "(III)I"⟩, 11) := ⟨⟨by decide +kernel, by decide +kernel⟩, List.mem_of_getElem? (i := 22) (by decide +kernel), List.mem_of_getElem? (i := 370) (by decide +kernel), List.mem_of_getElem? (i := 371) (by decide +kernel)⟩
theorem lw_p15 : lw_okq (⟨"ProxyVotes$Movements", "append", "(III)V"⟩, 4) := ⟨⟨by decide +kernel, by decide +kernel⟩, List.mem_of_getElem? (i := 30) (by decide +kernel), List.mem_of_getElem? (i := 374) (by decide +kernel), List.mem_of_getElem? (i := 375) (by decide +kernel)⟩
def lw_privs_1 : List (MethodName × Nat) := [(⟨"ProxyVotes$History", "note", "(LProxyVotes$Committee;)V"⟩, 3), (⟨"ProxyVotes$Committee", "copyFrom", "(LProxyVotes$Committee;)V"⟩, 11), (⟨"ProxyVotes$Item", "copyFrom", "(LProxyVotes$Item;)V"⟩, 10), (⟨"ProxyVotes$Movements", "copyFrom", "(LProxyVotes$Movements;)V"⟩, 4), (⟨"ProxyVotes$Committee", "changeSetting", "(II)I"⟩, 11), (⟨"ProxyVotes$History", "settle", "(I)I"⟩, 3), (⟨"ProxyVotes$Committee", "addMember", "(II)I"⟩, 11), (⟨"ProxyVotes$Committee", "addItem", "(II)I"⟩, 11), (⟨"ProxyVotes$Item", "begin", "(II)V"⟩, 10), (⟨"ProxyVotes$Committee", "nameChair", "(I)I"⟩, 11), (⟨"ProxyVotes$Committee", "hasMember", "(I)Z"⟩, 11), (⟨"ProxyVotes$Committee", "bringIn", "(I)I"⟩, 11), (⟨"ProxyVotes$Committee", "isPresent", "(I)Z"⟩, 11), (⟨"ProxyVotes$Committee", "sendAway", "(I)I"⟩, 11), (⟨"ProxyVotes$Committee", "addMovement", "(III)I"⟩, 11), (⟨"ProxyVotes$Movements", "append", "(III)V"⟩, 4)]
theorem lw_r1 : ∀ q ∈ lw_privs_1, lw_okq q := List.forall_mem_cons.mpr ⟨lw_p0, List.forall_mem_cons.mpr ⟨lw_p1, List.forall_mem_cons.mpr ⟨lw_p2, List.forall_mem_cons.mpr ⟨lw_p3, List.forall_mem_cons.mpr ⟨lw_p4, List.forall_mem_cons.mpr ⟨lw_p5, List.forall_mem_cons.mpr ⟨lw_p6, List.forall_mem_cons.mpr ⟨lw_p7, List.forall_mem_cons.mpr ⟨lw_p8, List.forall_mem_cons.mpr ⟨lw_p9, List.forall_mem_cons.mpr ⟨lw_p10, List.forall_mem_cons.mpr ⟨lw_p11, List.forall_mem_cons.mpr ⟨lw_p12, List.forall_mem_cons.mpr ⟨lw_p13, List.forall_mem_cons.mpr ⟨lw_p14, List.forall_mem_cons.mpr ⟨lw_p15, fun _ h => absurd h List.not_mem_nil⟩⟩⟩⟩⟩⟩⟩⟩⟩⟩⟩⟩⟩⟩⟩⟩
theorem lw_p16 : lw_okq (⟨"ProxyVotes$Committee", "nameHolder", "(III)I"⟩, 11) := ⟨⟨by decide +kernel, by decide +kernel⟩, List.mem_of_getElem? (i := 22) (by decide +kernel), List.mem_of_getElem? (i := 382) (by decide +kernel), List.mem_of_getElem? (i := 383) (by decide +kernel)⟩
theorem lw_p17 : lw_okq (⟨"ProxyVotes$Committee", "hasItem", "(I)Z"⟩, 11) := ⟨⟨by decide +kernel, by decide +kernel⟩, List.mem_of_getElem? (i := 22) (by decide +kernel), List.mem_of_getElem? (i := 386) (by decide +kernel), List.mem_of_getElem? (i := 387) (by decide +kernel)⟩
theorem lw_p18 : lw_okq (⟨"ProxyVotes$Committee", "tellChoice", "(III)I"⟩, 11) := ⟨⟨by decide +kernel, by decide +kernel⟩, List.mem_of_getElem? (i := 22) (by decide +kernel), List.mem_of_getElem? (i := 394) (by decide +kernel), List.mem_of_getElem? (i := 395) (by decide +kernel)⟩
theorem lw_p19 : lw_okq (⟨"ProxyVotes$Item", "isPending", "()Z"⟩, 10) := ⟨⟨by decide +kernel, by decide +kernel⟩, List.mem_of_getElem? (i := 59) (by decide +kernel), List.mem_of_getElem? (i := 401) (by decide +kernel), List.mem_of_getElem? (i := 402) (by decide +kernel)⟩
theorem lw_p20 : lw_okq (⟨"ProxyVotes$Committee", "recuseByHand", "(III)I"⟩, 11) := ⟨⟨by decide +kernel, by decide +kernel⟩, List.mem_of_getElem? (i := 22) (by decide +kernel), List.mem_of_getElem? (i := 409) (by decide +kernel), List.mem_of_getElem? (i := 410) (by decide +kernel)⟩
theorem lw_p21 : lw_okq (⟨"ProxyVotes$Committee", "isRecused", "(ILProxyVotes$Item;)Z"⟩, 11) := ⟨⟨by decide +kernel, by decide +kernel⟩, List.mem_of_getElem? (i := 22) (by decide +kernel), List.mem_of_getElem? (i := 413) (by decide +kernel), List.mem_of_getElem? (i := 414) (by decide +kernel)⟩
theorem lw_p22 : lw_okq (⟨"ProxyVotes$Committee", "openItem", "(ILProxyVotes$Hearing;)I"⟩, 11) := ⟨⟨by decide +kernel, by decide +kernel⟩, List.mem_of_getElem? (i := 22) (by decide +kernel), List.mem_of_getElem? (i := 421) (by decide +kernel), List.mem_of_getElem? (i := 422) (by decide +kernel)⟩
theorem lw_p23 : lw_okq (⟨"ProxyVotes$Hearing", "listen", "(LProxyVotes$Committee;LProxyVotes$Item;)V"⟩, 3) := ⟨⟨by decide +kernel, by decide +kernel⟩, List.mem_of_getElem? (i := 164) (by decide +kernel), List.mem_of_getElem? (i := 425) (by decide +kernel), List.mem_of_getElem? (i := 426) (by decide +kernel)⟩
theorem lw_p24 : lw_okq (⟨"ProxyVotes$Hearing", "takenUp", "(LProxyVotes$Committee;LProxyVotes$Item;I)I"⟩, 3) := ⟨⟨by decide +kernel, by decide +kernel⟩, List.mem_of_getElem? (i := 164) (by decide +kernel), List.mem_of_getElem? (i := 432) (by decide +kernel), List.mem_of_getElem? (i := 433) (by decide +kernel)⟩
theorem lw_p25 : lw_okq (⟨"ProxyVotes$Hearing", "endOfWay", "(LProxyVotes$Committee;LProxyVotes$Item;I)I"⟩, 3) := ⟨⟨by decide +kernel, by decide +kernel⟩, List.mem_of_getElem? (i := 164) (by decide +kernel), List.mem_of_getElem? (i := 436) (by decide +kernel), List.mem_of_getElem? (i := 437) (by decide +kernel)⟩
theorem lw_p26 : lw_okq (⟨"ProxyVotes$Committee", "holderFor", "(ILProxyVotes$Item;)I"⟩, 11) := ⟨⟨by decide +kernel, by decide +kernel⟩, List.mem_of_getElem? (i := 22) (by decide +kernel), List.mem_of_getElem? (i := 440) (by decide +kernel), List.mem_of_getElem? (i := 441) (by decide +kernel)⟩
theorem lw_p27 : lw_okq (⟨"ProxyVotes$Hearing", "weightThere", "(LProxyVotes$Committee;)I"⟩, 3) := ⟨⟨by decide +kernel, by decide +kernel⟩, List.mem_of_getElem? (i := 164) (by decide +kernel), List.mem_of_getElem? (i := 444) (by decide +kernel), List.mem_of_getElem? (i := 445) (by decide +kernel)⟩
theorem lw_p28 : lw_okq (⟨"ProxyVotes$Committee", "firstIn", "(I)I"⟩, 11) := ⟨⟨by decide +kernel, by decide +kernel⟩, List.mem_of_getElem? (i := 22) (by decide +kernel), List.mem_of_getElem? (i := 448) (by decide +kernel), List.mem_of_getElem? (i := 449) (by decide +kernel)⟩
theorem lw_p29 : lw_okq (⟨"ProxyVotes$Committee", "isQuorum", "(I)Z"⟩, 11) := ⟨⟨by decide +kernel, by decide +kernel⟩, List.mem_of_getElem? (i := 22) (by decide +kernel), List.mem_of_getElem? (i := 452) (by decide +kernel), List.mem_of_getElem? (i := 453) (by decide +kernel)⟩
theorem lw_p30 : lw_okq (⟨"ProxyVotes$Committee", "weightOfAll", "()I"⟩, 11) := ⟨⟨by decide +kernel, by decide +kernel⟩, List.mem_of_getElem? (i := 22) (by decide +kernel), List.mem_of_getElem? (i := 456) (by decide +kernel), List.mem_of_getElem? (i := 457) (by decide +kernel)⟩
theorem lw_p31 : lw_okq (⟨"ProxyVotes$Committee", "giveVote", "(II)I"⟩, 11) := ⟨⟨by decide +kernel, by decide +kernel⟩, List.mem_of_getElem? (i := 22) (by decide +kernel), List.mem_of_getElem? (i := 464) (by decide +kernel), List.mem_of_getElem? (i := 465) (by decide +kernel)⟩
def lw_privs_2 : List (MethodName × Nat) := [(⟨"ProxyVotes$Committee", "nameHolder", "(III)I"⟩, 11), (⟨"ProxyVotes$Committee", "hasItem", "(I)Z"⟩, 11), (⟨"ProxyVotes$Committee", "tellChoice", "(III)I"⟩, 11), (⟨"ProxyVotes$Item", "isPending", "()Z"⟩, 10), (⟨"ProxyVotes$Committee", "recuseByHand", "(III)I"⟩, 11), (⟨"ProxyVotes$Committee", "isRecused", "(ILProxyVotes$Item;)Z"⟩, 11), (⟨"ProxyVotes$Committee", "openItem", "(ILProxyVotes$Hearing;)I"⟩, 11), (⟨"ProxyVotes$Hearing", "listen", "(LProxyVotes$Committee;LProxyVotes$Item;)V"⟩, 3), (⟨"ProxyVotes$Hearing", "takenUp", "(LProxyVotes$Committee;LProxyVotes$Item;I)I"⟩, 3), (⟨"ProxyVotes$Hearing", "endOfWay", "(LProxyVotes$Committee;LProxyVotes$Item;I)I"⟩, 3), (⟨"ProxyVotes$Committee", "holderFor", "(ILProxyVotes$Item;)I"⟩, 11), (⟨"ProxyVotes$Hearing", "weightThere", "(LProxyVotes$Committee;)I"⟩, 3), (⟨"ProxyVotes$Committee", "firstIn", "(I)I"⟩, 11), (⟨"ProxyVotes$Committee", "isQuorum", "(I)Z"⟩, 11), (⟨"ProxyVotes$Committee", "weightOfAll", "()I"⟩, 11), (⟨"ProxyVotes$Committee", "giveVote", "(II)I"⟩, 11)]
theorem lw_r2 : ∀ q ∈ lw_privs_2, lw_okq q := List.forall_mem_cons.mpr ⟨lw_p16, List.forall_mem_cons.mpr ⟨lw_p17, List.forall_mem_cons.mpr ⟨lw_p18, List.forall_mem_cons.mpr ⟨lw_p19, List.forall_mem_cons.mpr ⟨lw_p20, List.forall_mem_cons.mpr ⟨lw_p21, List.forall_mem_cons.mpr ⟨lw_p22, List.forall_mem_cons.mpr ⟨lw_p23, List.forall_mem_cons.mpr ⟨lw_p24, List.forall_mem_cons.mpr ⟨lw_p25, List.forall_mem_cons.mpr ⟨lw_p26, List.forall_mem_cons.mpr ⟨lw_p27, List.forall_mem_cons.mpr ⟨lw_p28, List.forall_mem_cons.mpr ⟨lw_p29, List.forall_mem_cons.mpr ⟨lw_p30, List.forall_mem_cons.mpr ⟨lw_p31, fun _ h => absurd h List.not_mem_nil⟩⟩⟩⟩⟩⟩⟩⟩⟩⟩⟩⟩⟩⟩⟩⟩
theorem lw_p32 : lw_okq (⟨"ProxyVotes$Committee", "canVote", "(ILProxyVotes$Item;)Z"⟩, 11) := ⟨⟨by decide +kernel, by decide +kernel⟩, List.mem_of_getElem? (i := 22) (by decide +kernel), List.mem_of_getElem? (i := 468) (by decide +kernel), List.mem_of_getElem? (i := 469) (by decide +kernel)⟩
theorem lw_p33 : lw_okq (⟨"ProxyVotes$Committee", "closeItem", "(LProxyVotes$Hearing;)I"⟩, 11) := ⟨⟨by decide +kernel, by decide +kernel⟩, List.mem_of_getElem? (i := 22) (by decide +kernel), List.mem_of_getElem? (i := 476) (by decide +kernel), List.mem_of_getElem? (i := 477) (by decide +kernel)⟩
theorem lw_p34 : lw_okq (⟨"ProxyVotes$Hearing", "tally", "(LProxyVotes$Committee;LProxyVotes$Item;)V"⟩, 3) := ⟨⟨by decide +kernel, by decide +kernel⟩, List.mem_of_getElem? (i := 164) (by decide +kernel), List.mem_of_getElem? (i := 480) (by decide +kernel), List.mem_of_getElem? (i := 481) (by decide +kernel)⟩
theorem lw_p35 : lw_okq (⟨"ProxyVotes$Hearing", "wayOf", "(LProxyVotes$Committee;LProxyVotes$Item;I)I"⟩, 3) := ⟨⟨by decide +kernel, by decide +kernel⟩, List.mem_of_getElem? (i := 164) (by decide +kernel), List.mem_of_getElem? (i := 484) (by decide +kernel), List.mem_of_getElem? (i := 485) (by decide +kernel)⟩
theorem lw_p36 : lw_okq (⟨"ProxyVotes$Hearing", "outcome", "(LProxyVotes$Committee;LProxyVotes$Item;I)I"⟩, 3) := ⟨⟨by decide +kernel, by decide +kernel⟩, List.mem_of_getElem? (i := 164) (by decide +kernel), List.mem_of_getElem? (i := 488) (by decide +kernel), List.mem_of_getElem? (i := 489) (by decide +kernel)⟩
theorem lw_p37 : lw_okq (⟨"ProxyVotes$Item", "putOff", "()V"⟩, 10) := ⟨⟨by decide +kernel, by decide +kernel⟩, List.mem_of_getElem? (i := 59) (by decide +kernel), List.mem_of_getElem? (i := 492) (by decide +kernel), List.mem_of_getElem? (i := 493) (by decide +kernel)⟩
theorem lw_p38 : lw_okq (⟨"ProxyVotes$Committee", "breakTie", "(I)I"⟩, 11) := ⟨⟨by decide +kernel, by decide +kernel⟩, List.mem_of_getElem? (i := 22) (by decide +kernel), List.mem_of_getElem? (i := 500) (by decide +kernel), List.mem_of_getElem? (i := 501) (by decide +kernel)⟩
theorem lw_p39 : lw_okq (⟨"ProxyVotes$Committee", "chairOfTheMoment", "()I"⟩, 11) := ⟨⟨by decide +kernel, by decide +kernel⟩, List.mem_of_getElem? (i := 22) (by decide +kernel), List.mem_of_getElem? (i := 504) (by decide +kernel), List.mem_of_getElem? (i := 505) (by decide +kernel)⟩
theorem lw_p40 : lw_okq (⟨"ProxyVotes$Committee", "letPass", "(I)I"⟩, 11) := ⟨⟨by decide +kernel, by decide +kernel⟩, List.mem_of_getElem? (i := 22) (by decide +kernel), List.mem_of_getElem? (i := 512) (by decide +kernel), List.mem_of_getElem? (i := 513) (by decide +kernel)⟩
theorem lw_p41 : lw_okq (⟨"ProxyVotes$Committee", "moveTo", "(I)V"⟩, 11) := ⟨⟨by decide +kernel, by decide +kernel⟩, List.mem_of_getElem? (i := 22) (by decide +kernel), List.mem_of_getElem? (i := 516) (by decide +kernel), List.mem_of_getElem? (i := 517) (by decide +kernel)⟩
theorem lw_p42 : lw_okq (⟨"ProxyVotes$Movements", "next", "()I"⟩, 4) := ⟨⟨by decide +kernel, by decide +kernel⟩, List.mem_of_getElem? (i := 30) (by decide +kernel), List.mem_of_getElem? (i := 520) (by decide +kernel), List.mem_of_getElem? (i := 521) (by decide +kernel)⟩
theorem lw_p43 : lw_okq (⟨"ProxyVotes$Movements", "drop", "(I)V"⟩, 4) := ⟨⟨by decide +kernel, by decide +kernel⟩, List.mem_of_getElem? (i := 30) (by decide +kernel), List.mem_of_getElem? (i := 524) (by decide +kernel), List.mem_of_getElem? (i := 525) (by decide +kernel)⟩
theorem lw_p44 : lw_okq (⟨"ProxyVotes$Committee", "votesOf", "(I)I"⟩, 11) := ⟨⟨by decide +kernel, by decide +kernel⟩, List.mem_of_getElem? (i := 22) (by decide +kernel), List.mem_of_getElem? (i := 534) (by decide +kernel), List.mem_of_getElem? (i := 535) (by decide +kernel)⟩
theorem lw_p45 : lw_okq (⟨"ProxyVotes$Committee", "tiesBrokenBy", "(I)I"⟩, 11) := ⟨⟨by decide +kernel, by decide +kernel⟩, List.mem_of_getElem? (i := 22) (by decide +kernel), List.mem_of_getElem? (i := 538) (by decide +kernel), List.mem_of_getElem? (i := 539) (by decide +kernel)⟩
theorem lw_p46 : lw_okq (⟨"ProxyVotes", "sumOf", "(LProxyVotes$Item;I)I"⟩, 9) := ⟨⟨by decide +kernel, by decide +kernel⟩, List.mem_of_getElem? (i := 14) (by decide +kernel), List.mem_of_getElem? (i := 550) (by decide +kernel), List.mem_of_getElem? (i := 551) (by decide +kernel)⟩
theorem lw_p47 : lw_okq (⟨"ProxyVotes$Hearing", "spokenForBy", "(LProxyVotes$Committee;I)I"⟩, 3) := ⟨⟨by decide +kernel, by decide +kernel⟩, List.mem_of_getElem? (i := 164) (by decide +kernel), List.mem_of_getElem? (i := 562) (by decide +kernel), List.mem_of_getElem? (i := 563) (by decide +kernel)⟩
def lw_privs_3 : List (MethodName × Nat) := [(⟨"ProxyVotes$Committee", "canVote", "(ILProxyVotes$Item;)Z"⟩, 11), (⟨"ProxyVotes$Committee", "closeItem", "(LProxyVotes$Hearing;)I"⟩, 11), (⟨"ProxyVotes$Hearing", "tally", "(LProxyVotes$Committee;LProxyVotes$Item;)V"⟩, 3), (⟨"ProxyVotes$Hearing", "wayOf", "(LProxyVotes$Committee;LProxyVotes$Item;I)I"⟩, 3), (⟨"ProxyVotes$Hearing", "outcome", "(LProxyVotes$Committee;LProxyVotes$Item;I)I"⟩, 3), (⟨"ProxyVotes$Item", "putOff", "()V"⟩, 10), (⟨"ProxyVotes$Committee", "breakTie", "(I)I"⟩, 11), (⟨"ProxyVotes$Committee", "chairOfTheMoment", "()I"⟩, 11), (⟨"ProxyVotes$Committee", "letPass", "(I)I"⟩, 11), (⟨"ProxyVotes$Committee", "moveTo", "(I)V"⟩, 11), (⟨"ProxyVotes$Movements", "next", "()I"⟩, 4), (⟨"ProxyVotes$Movements", "drop", "(I)V"⟩, 4), (⟨"ProxyVotes$Committee", "votesOf", "(I)I"⟩, 11), (⟨"ProxyVotes$Committee", "tiesBrokenBy", "(I)I"⟩, 11), (⟨"ProxyVotes", "sumOf", "(LProxyVotes$Item;I)I"⟩, 9), (⟨"ProxyVotes$Hearing", "spokenForBy", "(LProxyVotes$Committee;I)I"⟩, 3)]
theorem lw_r3 : ∀ q ∈ lw_privs_3, lw_okq q := List.forall_mem_cons.mpr ⟨lw_p32, List.forall_mem_cons.mpr ⟨lw_p33, List.forall_mem_cons.mpr ⟨lw_p34, List.forall_mem_cons.mpr ⟨lw_p35, List.forall_mem_cons.mpr ⟨lw_p36, List.forall_mem_cons.mpr ⟨lw_p37, List.forall_mem_cons.mpr ⟨lw_p38, List.forall_mem_cons.mpr ⟨lw_p39, List.forall_mem_cons.mpr ⟨lw_p40, List.forall_mem_cons.mpr ⟨lw_p41, List.forall_mem_cons.mpr ⟨lw_p42, List.forall_mem_cons.mpr ⟨lw_p43, List.forall_mem_cons.mpr ⟨lw_p44, List.forall_mem_cons.mpr ⟨lw_p45, List.forall_mem_cons.mpr ⟨lw_p46, List.forall_mem_cons.mpr ⟨lw_p47, fun _ h => absurd h List.not_mem_nil⟩⟩⟩⟩⟩⟩⟩⟩⟩⟩⟩⟩⟩⟩⟩⟩
theorem lw_p48 : lw_okq (⟨"ProxyVotes$Committee", "itemsIn", "(I)I"⟩, 11) := ⟨⟨by decide +kernel, by decide +kernel⟩, List.mem_of_getElem? (i := 22) (by decide +kernel), List.mem_of_getElem? (i := 570) (by decide +kernel), List.mem_of_getElem? (i := 571) (by decide +kernel)⟩
theorem lw_p49 : lw_okq (⟨"ProxyVotes", "canTurn", "(ILProxyVotes$Item;I)Z"⟩, 9) := ⟨⟨by decide +kernel, by decide +kernel⟩, List.mem_of_getElem? (i := 14) (by decide +kernel), List.mem_of_getElem? (i := 588) (by decide +kernel), List.mem_of_getElem? (i := 589) (by decide +kernel)⟩
theorem lw_p50 : lw_okq (⟨"ProxyVotes", "findGains", "(LProxyVotes$Item;)I"⟩, 9) := ⟨⟨by decide +kernel, by decide +kernel⟩, List.mem_of_getElem? (i := 14) (by decide +kernel), List.mem_of_getElem? (i := 596) (by decide +kernel), List.mem_of_getElem? (i := 597) (by decide +kernel)⟩
theorem lw_p51 : lw_okq (⟨"ProxyVotes", "fewestToCarry", "(LProxyVotes$Item;I)I"⟩, 9) := ⟨⟨by decide +kernel, by decide +kernel⟩, List.mem_of_getElem? (i := 14) (by decide +kernel), List.mem_of_getElem? (i := 600) (by decide +kernel), List.mem_of_getElem? (i := 601) (by decide +kernel)⟩
theorem lw_p52 : lw_okq (⟨"ProxyVotes", "gainOf", "(I)I"⟩, 9) := ⟨⟨by decide +kernel, by decide +kernel⟩, List.mem_of_getElem? (i := 14) (by decide +kernel), List.mem_of_getElem? (i := 605) (by decide +kernel), List.mem_of_getElem? (i := 606) (by decide +kernel)⟩
theorem lw_p53 : lw_okq (⟨"ProxyVotes", "countSetsWithout", "(I)V"⟩, 9) := ⟨⟨by decide +kernel, by decide +kernel⟩, List.mem_of_getElem? (i := 14) (by decide +kernel), List.mem_of_getElem? (i := 613) (by decide +kernel), List.mem_of_getElem? (i := 614) (by decide +kernel)⟩
theorem lw_p54 : lw_okq (⟨"ProxyVotes$Committee", "nextTurn", "()I"⟩, 11) := ⟨⟨by decide +kernel, by decide +kernel⟩, List.mem_of_getElem? (i := 22) (by decide +kernel), List.mem_of_getElem? (i := 622) (by decide +kernel), List.mem_of_getElem? (i := 623) (by decide +kernel)⟩
theorem lw_p55 : lw_okq (⟨"ProxyVotes$Pad", "append", "(J)I"⟩, 7) := ⟨⟨by decide +kernel, by decide +kernel⟩, List.mem_of_getElem? (i := 204) (by decide +kernel), List.mem_of_getElem? (i := 636) (by decide +kernel), List.mem_of_getElem? (i := 637) (by decide +kernel)⟩
theorem lw_p56 : lw_okq (⟨"ProxyVotes$Pad", "empty", "()I"⟩, 7) := ⟨⟨by decide +kernel, by decide +kernel⟩, List.mem_of_getElem? (i := 204) (by decide +kernel), List.mem_of_getElem? (i := 647) (by decide +kernel), List.mem_of_getElem? (i := 648) (by decide +kernel)⟩
theorem lw_p57 : lw_okq (⟨"ProxyVotes$Pad", "read", "()I"⟩, 7) := ⟨⟨by decide +kernel, by decide +kernel⟩, List.mem_of_getElem? (i := 204) (by decide +kernel), List.mem_of_getElem? (i := 655) (by decide +kernel), List.mem_of_getElem? (i := 656) (by decide +kernel)⟩
theorem lw_p58 : lw_okq (⟨"ProxyVotes$Pad", "readOrder", "(I)Z"⟩, 7) := ⟨⟨by decide +kernel, by decide +kernel⟩, List.mem_of_getElem? (i := 204) (by decide +kernel), List.mem_of_getElem? (i := 659) (by decide +kernel), List.mem_of_getElem? (i := 660) (by decide +kernel)⟩
theorem lw_p59 : lw_okq (⟨"ProxyVotes$Pad", "ahead", "()C"⟩, 7) := ⟨⟨by decide +kernel, by decide +kernel⟩, List.mem_of_getElem? (i := 204) (by decide +kernel), List.mem_of_getElem? (i := 663) (by decide +kernel), List.mem_of_getElem? (i := 664) (by decide +kernel)⟩
theorem lw_p60 : lw_okq (⟨"ProxyVotes$Pad", "readMember", "(I)Z"⟩, 7) := ⟨⟨by decide +kernel, by decide +kernel⟩, List.mem_of_getElem? (i := 204) (by decide +kernel), List.mem_of_getElem? (i := 670) (by decide +kernel), List.mem_of_getElem? (i := 671) (by decide +kernel)⟩
theorem lw_p61 : lw_okq (⟨"ProxyVotes$Pad", "readNumber", "(I)Z"⟩, 7) := ⟨⟨by decide +kernel, by decide +kernel⟩, List.mem_of_getElem? (i := 204) (by decide +kernel), List.mem_of_getElem? (i := 674) (by decide +kernel), List.mem_of_getElem? (i := 675) (by decide +kernel)⟩
theorem lw_p62 : lw_okq (⟨"ProxyVotes$Pad", "readChoice", "(IC)Z"⟩, 7) := ⟨⟨by decide +kernel, by decide +kernel⟩, List.mem_of_getElem? (i := 204) (by decide +kernel), List.mem_of_getElem? (i := 681) (by decide +kernel), List.mem_of_getElem? (i := 682) (by decide +kernel)⟩
theorem lw_p63 : lw_okq (⟨"ProxyVotes", "carry", "(I)I"⟩, 9) := ⟨⟨by decide +kernel, by decide +kernel⟩, List.mem_of_getElem? (i := 14) (by decide +kernel), List.mem_of_getElem? (i := 689) (by decide +kernel), List.mem_of_getElem? (i := 690) (by decide +kernel)⟩
def lw_privs_4 : List (MethodName × Nat) := [(⟨"ProxyVotes$Committee", "itemsIn", "(I)I"⟩, 11), (⟨"ProxyVotes", "canTurn", "(ILProxyVotes$Item;I)Z"⟩, 9), (⟨"ProxyVotes", "findGains", "(LProxyVotes$Item;)I"⟩, 9), (⟨"ProxyVotes", "fewestToCarry", "(LProxyVotes$Item;I)I"⟩, 9), (⟨"ProxyVotes", "gainOf", "(I)I"⟩, 9), (⟨"ProxyVotes", "countSetsWithout", "(I)V"⟩, 9), (⟨"ProxyVotes$Committee", "nextTurn", "()I"⟩, 11), (⟨"ProxyVotes$Pad", "append", "(J)I"⟩, 7), (⟨"ProxyVotes$Pad", "empty", "()I"⟩, 7), (⟨"ProxyVotes$Pad", "read", "()I"⟩, 7), (⟨"ProxyVotes$Pad", "readOrder", "(I)Z"⟩, 7), (⟨"ProxyVotes$Pad", "ahead", "()C"⟩, 7), (⟨"ProxyVotes$Pad", "readMember", "(I)Z"⟩, 7), (⟨"ProxyVotes$Pad", "readNumber", "(I)Z"⟩, 7), (⟨"ProxyVotes$Pad", "readChoice", "(IC)Z"⟩, 7), (⟨"ProxyVotes", "carry", "(I)I"⟩, 9)]
theorem lw_r4 : ∀ q ∈ lw_privs_4, lw_okq q := List.forall_mem_cons.mpr ⟨lw_p48, List.forall_mem_cons.mpr ⟨lw_p49, List.forall_mem_cons.mpr ⟨lw_p50, List.forall_mem_cons.mpr ⟨lw_p51, List.forall_mem_cons.mpr ⟨lw_p52, List.forall_mem_cons.mpr ⟨lw_p53, List.forall_mem_cons.mpr ⟨lw_p54, List.forall_mem_cons.mpr ⟨lw_p55, List.forall_mem_cons.mpr ⟨lw_p56, List.forall_mem_cons.mpr ⟨lw_p57, List.forall_mem_cons.mpr ⟨lw_p58, List.forall_mem_cons.mpr ⟨lw_p59, List.forall_mem_cons.mpr ⟨lw_p60, List.forall_mem_cons.mpr ⟨lw_p61, List.forall_mem_cons.mpr ⟨lw_p62, List.forall_mem_cons.mpr ⟨lw_p63, fun _ h => absurd h List.not_mem_nil⟩⟩⟩⟩⟩⟩⟩⟩⟩⟩⟩⟩⟩⟩⟩⟩
theorem lw_p64 : lw_okq (⟨"ProxyVotes$History", "takeBack", "(LProxyVotes$Committee;)I"⟩, 3) := ⟨⟨by decide +kernel, by decide +kernel⟩, List.mem_of_getElem? (i := 184) (by decide +kernel), List.mem_of_getElem? (i := 698) (by decide +kernel), List.mem_of_getElem? (i := 699) (by decide +kernel)⟩
theorem lw_p65 : lw_okq (⟨"ProxyVotesModel", "record", "()V"⟩, 16) := ⟨⟨by decide +kernel, by decide +kernel⟩, List.mem_of_getElem? (i := 710) (by decide +kernel), List.mem_of_getElem? (i := 772) (by decide +kernel), List.mem_of_getElem? (i := 773) (by decide +kernel)⟩
theorem lw_p66 : lw_okq (⟨"ProxyVotesModel", "isMember", "(I)Z"⟩, 16) := ⟨⟨by decide +kernel, by decide +kernel⟩, List.mem_of_getElem? (i := 710) (by decide +kernel), List.mem_of_getElem? (i := 788) (by decide +kernel), List.mem_of_getElem? (i := 789) (by decide +kernel)⟩
theorem lw_p67 : lw_okq (⟨"ProxyVotesModel", "turnTo", "(II)I"⟩, 16) := ⟨⟨by decide +kernel, by decide +kernel⟩, List.mem_of_getElem? (i := 710) (by decide +kernel), List.mem_of_getElem? (i := 796) (by decide +kernel), List.mem_of_getElem? (i := 797) (by decide +kernel)⟩
theorem lw_p68 : lw_okq (⟨"ProxyVotesModel", "ofOne", "(II)I"⟩, 16) := ⟨⟨by decide +kernel, by decide +kernel⟩, List.mem_of_getElem? (i := 710) (by decide +kernel), List.mem_of_getElem? (i := 800) (by decide +kernel), List.mem_of_getElem? (i := 801) (by decide +kernel)⟩
theorem lw_p69 : lw_okq (⟨"ProxyVotesModel", "present", "()I"⟩, 16) := ⟨⟨by decide +kernel, by decide +kernel⟩, List.mem_of_getElem? (i := 710) (by decide +kernel), List.mem_of_getElem? (i := 804) (by decide +kernel), List.mem_of_getElem? (i := 805) (by decide +kernel)⟩
theorem lw_p70 : lw_okq (⟨"ProxyVotesModel", "isPresent", "(I)Z"⟩, 16) := ⟨⟨by decide +kernel, by decide +kernel⟩, List.mem_of_getElem? (i := 710) (by decide +kernel), List.mem_of_getElem? (i := 808) (by decide +kernel), List.mem_of_getElem? (i := 809) (by decide +kernel)⟩
theorem lw_p71 : lw_okq (⟨"ProxyVotesModel", "isItem", "(I)Z"⟩, 16) := ⟨⟨by decide +kernel, by decide +kernel⟩, List.mem_of_getElem? (i := 710) (by decide +kernel), List.mem_of_getElem? (i := 827) (by decide +kernel), List.mem_of_getElem? (i := 828) (by decide +kernel)⟩
theorem lw_p72 : lw_okq (⟨"ProxyVotesModel", "isAhead", "(I)Z"⟩, 16) := ⟨⟨by decide +kernel, by decide +kernel⟩, List.mem_of_getElem? (i := 710) (by decide +kernel), List.mem_of_getElem? (i := 835) (by decide +kernel), List.mem_of_getElem? (i := 836) (by decide +kernel)⟩
theorem lw_p73 : lw_okq (⟨"ProxyVotesModel", "stateOf", "(I)I"⟩, 16) := ⟨⟨by decide +kernel, by decide +kernel⟩, List.mem_of_getElem? (i := 710) (by decide +kernel), List.mem_of_getElem? (i := 839) (by decide +kernel), List.mem_of_getElem? (i := 840) (by decide +kernel)⟩
theorem lw_p74 : lw_okq (⟨"ProxyVotesModel", "isRecused", "(II)Z"⟩, 16) := ⟨⟨by decide +kernel, by decide +kernel⟩, List.mem_of_getElem? (i := 710) (by decide +kernel), List.mem_of_getElem? (i := 847) (by decide +kernel), List.mem_of_getElem? (i := 848) (by decide +kernel)⟩
theorem lw_p75 : lw_okq (⟨"ProxyVotesModel", "itemIn", "(I)I"⟩, 16) := ⟨⟨by decide +kernel, by decide +kernel⟩, List.mem_of_getElem? (i := 710) (by decide +kernel), List.mem_of_getElem? (i := 858) (by decide +kernel), List.mem_of_getElem? (i := 859) (by decide +kernel)⟩
theorem lw_p76 : lw_okq (⟨"ProxyVotesModel", "isQuorum", "(I)Z"⟩, 16) := ⟨⟨by decide +kernel, by decide +kernel⟩, List.mem_of_getElem? (i := 710) (by decide +kernel), List.mem_of_getElem? (i := 862) (by decide +kernel), List.mem_of_getElem? (i := 863) (by decide +kernel)⟩
theorem lw_p77 : lw_okq (⟨"ProxyVotesModel", "weightThere", "(I)I"⟩, 16) := ⟨⟨by decide +kernel, by decide +kernel⟩, List.mem_of_getElem? (i := 710) (by decide +kernel), List.mem_of_getElem? (i := 866) (by decide +kernel), List.mem_of_getElem? (i := 867) (by decide +kernel)⟩
theorem lw_p78 : lw_okq (⟨"ProxyVotesModel", "layVoices", "(I)V"⟩, 16) := ⟨⟨by decide +kernel, by decide +kernel⟩, List.mem_of_getElem? (i := 710) (by decide +kernel), List.mem_of_getElem? (i := 870) (by decide +kernel), List.mem_of_getElem? (i := 871) (by decide +kernel)⟩
theorem lw_p79 : lw_okq (⟨"ProxyVotesModel", "endOf", "(II)I"⟩, 16) := ⟨⟨by decide +kernel, by decide +kernel⟩, List.mem_of_getElem? (i := 710) (by decide +kernel), List.mem_of_getElem? (i := 874) (by decide +kernel), List.mem_of_getElem? (i := 875) (by decide +kernel)⟩
def lw_privs_5 : List (MethodName × Nat) := [(⟨"ProxyVotes$History", "takeBack", "(LProxyVotes$Committee;)I"⟩, 3), (⟨"ProxyVotesModel", "record", "()V"⟩, 16), (⟨"ProxyVotesModel", "isMember", "(I)Z"⟩, 16), (⟨"ProxyVotesModel", "turnTo", "(II)I"⟩, 16), (⟨"ProxyVotesModel", "ofOne", "(II)I"⟩, 16), (⟨"ProxyVotesModel", "present", "()I"⟩, 16), (⟨"ProxyVotesModel", "isPresent", "(I)Z"⟩, 16), (⟨"ProxyVotesModel", "isItem", "(I)Z"⟩, 16), (⟨"ProxyVotesModel", "isAhead", "(I)Z"⟩, 16), (⟨"ProxyVotesModel", "stateOf", "(I)I"⟩, 16), (⟨"ProxyVotesModel", "isRecused", "(II)Z"⟩, 16), (⟨"ProxyVotesModel", "itemIn", "(I)I"⟩, 16), (⟨"ProxyVotesModel", "isQuorum", "(I)Z"⟩, 16), (⟨"ProxyVotesModel", "weightThere", "(I)I"⟩, 16), (⟨"ProxyVotesModel", "layVoices", "(I)V"⟩, 16), (⟨"ProxyVotesModel", "endOf", "(II)I"⟩, 16)]
theorem lw_r5 : ∀ q ∈ lw_privs_5, lw_okq q := List.forall_mem_cons.mpr ⟨lw_p64, List.forall_mem_cons.mpr ⟨lw_p65, List.forall_mem_cons.mpr ⟨lw_p66, List.forall_mem_cons.mpr ⟨lw_p67, List.forall_mem_cons.mpr ⟨lw_p68, List.forall_mem_cons.mpr ⟨lw_p69, List.forall_mem_cons.mpr ⟨lw_p70, List.forall_mem_cons.mpr ⟨lw_p71, List.forall_mem_cons.mpr ⟨lw_p72, List.forall_mem_cons.mpr ⟨lw_p73, List.forall_mem_cons.mpr ⟨lw_p74, List.forall_mem_cons.mpr ⟨lw_p75, List.forall_mem_cons.mpr ⟨lw_p76, List.forall_mem_cons.mpr ⟨lw_p77, List.forall_mem_cons.mpr ⟨lw_p78, List.forall_mem_cons.mpr ⟨lw_p79, fun _ h => absurd h List.not_mem_nil⟩⟩⟩⟩⟩⟩⟩⟩⟩⟩⟩⟩⟩⟩⟩⟩
theorem lw_p80 : lw_okq (⟨"ProxyVotesModel", "holderOf", "(II)I"⟩, 16) := ⟨⟨by decide +kernel, by decide +kernel⟩, List.mem_of_getElem? (i := 710) (by decide +kernel), List.mem_of_getElem? (i := 878) (by decide +kernel), List.mem_of_getElem? (i := 879) (by decide +kernel)⟩
theorem lw_p81 : lw_okq (⟨"ProxyVotesModel", "pair", "(III)I"⟩, 16) := ⟨⟨by decide +kernel, by decide +kernel⟩, List.mem_of_getElem? (i := 710) (by decide +kernel), List.mem_of_getElem? (i := 882) (by decide +kernel), List.mem_of_getElem? (i := 883) (by decide +kernel)⟩
theorem lw_p82 : lw_okq (⟨"ProxyVotesModel", "allWeight", "()I"⟩, 16) := ⟨⟨by decide +kernel, by decide +kernel⟩, List.mem_of_getElem? (i := 710) (by decide +kernel), List.mem_of_getElem? (i := 886) (by decide +kernel), List.mem_of_getElem? (i := 887) (by decide +kernel)⟩
theorem lw_p83 : lw_okq (⟨"ProxyVotesModel", "outcome", "(I)I"⟩, 16) := ⟨⟨by decide +kernel, by decide +kernel⟩, List.mem_of_getElem? (i := 710) (by decide +kernel), List.mem_of_getElem? (i := 898) (by decide +kernel), List.mem_of_getElem? (i := 899) (by decide +kernel)⟩
theorem lw_p84 : lw_okq (⟨"ProxyVotesModel", "count6", "(I)V"⟩, 16) := ⟨⟨by decide +kernel, by decide +kernel⟩, List.mem_of_getElem? (i := 710) (by decide +kernel), List.mem_of_getElem? (i := 902) (by decide +kernel), List.mem_of_getElem? (i := 903) (by decide +kernel)⟩
theorem lw_p85 : lw_okq (⟨"ProxyVotesModel", "wayOf", "(II)I"⟩, 16) := ⟨⟨by decide +kernel, by decide +kernel⟩, List.mem_of_getElem? (i := 710) (by decide +kernel), List.mem_of_getElem? (i := 906) (by decide +kernel), List.mem_of_getElem? (i := 907) (by decide +kernel)⟩
theorem lw_p86 : lw_okq (⟨"ProxyVotesModel", "chairNow", "()I"⟩, 16) := ⟨⟨by decide +kernel, by decide +kernel⟩, List.mem_of_getElem? (i := 710) (by decide +kernel), List.mem_of_getElem? (i := 914) (by decide +kernel), List.mem_of_getElem? (i := 915) (by decide +kernel)⟩
theorem lw_p87 : lw_okq (⟨"ProxyVotesModel", "nextMinute", "()V"⟩, 16) := ⟨⟨by decide +kernel, by decide +kernel⟩, List.mem_of_getElem? (i := 710) (by decide +kernel), List.mem_of_getElem? (i := 922) (by decide +kernel), List.mem_of_getElem? (i := 923) (by decide +kernel)⟩
theorem lw_p88 : lw_okq (⟨"ProxyVotesModel", "votesOf", "(I)I"⟩, 16) := ⟨⟨by decide +kernel, by decide +kernel⟩, List.mem_of_getElem? (i := 710) (by decide +kernel), List.mem_of_getElem? (i := 930) (by decide +kernel), List.mem_of_getElem? (i := 931) (by decide +kernel)⟩
theorem lw_p89 : lw_okq (⟨"ProxyVotesModel", "itemsIn", "(I)I"⟩, 16) := ⟨⟨by decide +kernel, by decide +kernel⟩, List.mem_of_getElem? (i := 710) (by decide +kernel), List.mem_of_getElem? (i := 946) (by decide +kernel), List.mem_of_getElem? (i := 947) (by decide +kernel)⟩
theorem lw_p90 : lw_okq (⟨"ProxyVotesModel", "canVote", "(II)Z"⟩, 16) := ⟨⟨by decide +kernel, by decide +kernel⟩, List.mem_of_getElem? (i := 710) (by decide +kernel), List.mem_of_getElem? (i := 958) (by decide +kernel), List.mem_of_getElem? (i := 959) (by decide +kernel)⟩
theorem lw_p91 : lw_okq (⟨"ProxyVotesModel", "isCarriedBy", "(II)Z"⟩, 16) := ⟨⟨by decide +kernel, by decide +kernel⟩, List.mem_of_getElem? (i := 710) (by decide +kernel), List.mem_of_getElem? (i := 966) (by decide +kernel), List.mem_of_getElem? (i := 967) (by decide +kernel)⟩
theorem lw_p92 : lw_okq (⟨"ProxyVotesModel", "keep", "()V"⟩, 16) := ⟨⟨by decide +kernel, by decide +kernel⟩, List.mem_of_getElem? (i := 710) (by decide +kernel), List.mem_of_getElem? (i := 978) (by decide +kernel), List.mem_of_getElem? (i := 979) (by decide +kernel)⟩
theorem lw_p93 : lw_okq (⟨"ProxyVotesModel", "comeBack", "()V"⟩, 16) := ⟨⟨by decide +kernel, by decide +kernel⟩, List.mem_of_getElem? (i := 710) (by decide +kernel), List.mem_of_getElem? (i := 982) (by decide +kernel), List.mem_of_getElem? (i := 983) (by decide +kernel)⟩
theorem lw_p94 : lw_okq (⟨"ProxyVotesModel", "faultOf", "()I"⟩, 16) := ⟨⟨by decide +kernel, by decide +kernel⟩, List.mem_of_getElem? (i := 710) (by decide +kernel), List.mem_of_getElem? (i := 1003) (by decide +kernel), List.mem_of_getElem? (i := 1004) (by decide +kernel)⟩
theorem lw_p95 : lw_okq (⟨"ProxyVotesModel", "readOne", "()V"⟩, 16) := ⟨⟨by decide +kernel, by decide +kernel⟩, List.mem_of_getElem? (i := 710) (by decide +kernel), List.mem_of_getElem? (i := 1007) (by decide +kernel), List.mem_of_getElem? (i := 1008) (by decide +kernel)⟩
def lw_privs_6 : List (MethodName × Nat) := [(⟨"ProxyVotesModel", "holderOf", "(II)I"⟩, 16), (⟨"ProxyVotesModel", "pair", "(III)I"⟩, 16), (⟨"ProxyVotesModel", "allWeight", "()I"⟩, 16), (⟨"ProxyVotesModel", "outcome", "(I)I"⟩, 16), (⟨"ProxyVotesModel", "count6", "(I)V"⟩, 16), (⟨"ProxyVotesModel", "wayOf", "(II)I"⟩, 16), (⟨"ProxyVotesModel", "chairNow", "()I"⟩, 16), (⟨"ProxyVotesModel", "nextMinute", "()V"⟩, 16), (⟨"ProxyVotesModel", "votesOf", "(I)I"⟩, 16), (⟨"ProxyVotesModel", "itemsIn", "(I)I"⟩, 16), (⟨"ProxyVotesModel", "canVote", "(II)Z"⟩, 16), (⟨"ProxyVotesModel", "isCarriedBy", "(II)Z"⟩, 16), (⟨"ProxyVotesModel", "keep", "()V"⟩, 16), (⟨"ProxyVotesModel", "comeBack", "()V"⟩, 16), (⟨"ProxyVotesModel", "faultOf", "()I"⟩, 16), (⟨"ProxyVotesModel", "readOne", "()V"⟩, 16)]
theorem lw_r6 : ∀ q ∈ lw_privs_6, lw_okq q := List.forall_mem_cons.mpr ⟨lw_p80, List.forall_mem_cons.mpr ⟨lw_p81, List.forall_mem_cons.mpr ⟨lw_p82, List.forall_mem_cons.mpr ⟨lw_p83, List.forall_mem_cons.mpr ⟨lw_p84, List.forall_mem_cons.mpr ⟨lw_p85, List.forall_mem_cons.mpr ⟨lw_p86, List.forall_mem_cons.mpr ⟨lw_p87, List.forall_mem_cons.mpr ⟨lw_p88, List.forall_mem_cons.mpr ⟨lw_p89, List.forall_mem_cons.mpr ⟨lw_p90, List.forall_mem_cons.mpr ⟨lw_p91, List.forall_mem_cons.mpr ⟨lw_p92, List.forall_mem_cons.mpr ⟨lw_p93, List.forall_mem_cons.mpr ⟨lw_p94, List.forall_mem_cons.mpr ⟨lw_p95, fun _ h => absurd h List.not_mem_nil⟩⟩⟩⟩⟩⟩⟩⟩⟩⟩⟩⟩⟩⟩⟩⟩
theorem lw_p96 : lw_okq (⟨"ProxyVotesModel", "sign", "()I"⟩, 16) := ⟨⟨by decide +kernel, by decide +kernel⟩, List.mem_of_getElem? (i := 710) (by decide +kernel), List.mem_of_getElem? (i := 1011) (by decide +kernel), List.mem_of_getElem? (i := 1012) (by decide +kernel)⟩
theorem lw_p97 : lw_okq (⟨"ProxyVotesModel", "number", "()I"⟩, 16) := ⟨⟨by decide +kernel, by decide +kernel⟩, List.mem_of_getElem? (i := 710) (by decide +kernel), List.mem_of_getElem? (i := 1015) (by decide +kernel), List.mem_of_getElem? (i := 1016) (by decide +kernel)⟩
theorem lw_p98 : lw_okq (⟨"ProxyVotesModel", "one", "(III)I"⟩, 16) := ⟨⟨by decide +kernel, by decide +kernel⟩, List.mem_of_getElem? (i := 710) (by decide +kernel), List.mem_of_getElem? (i := 1019) (by decide +kernel), List.mem_of_getElem? (i := 1020) (by decide +kernel)⟩
theorem lw_p99 : lw_okq (⟨"ProxyVotesModel", "carry", "(I)Z"⟩, 16) := ⟨⟨by decide +kernel, by decide +kernel⟩, List.mem_of_getElem? (i := 710) (by decide +kernel), List.mem_of_getElem? (i := 1027) (by decide +kernel), List.mem_of_getElem? (i := 1028) (by decide +kernel)⟩
def lw_privs_7 : List (MethodName × Nat) := [(⟨"ProxyVotesModel", "sign", "()I"⟩, 16), (⟨"ProxyVotesModel", "number", "()I"⟩, 16), (⟨"ProxyVotesModel", "one", "(III)I"⟩, 16), (⟨"ProxyVotesModel", "carry", "(I)Z"⟩, 16)]
theorem lw_r7 : ∀ q ∈ lw_privs_7, lw_okq q := List.forall_mem_cons.mpr ⟨lw_p96, List.forall_mem_cons.mpr ⟨lw_p97, List.forall_mem_cons.mpr ⟨lw_p98, List.forall_mem_cons.mpr ⟨lw_p99, fun _ h => absurd h List.not_mem_nil⟩⟩⟩⟩
def lw_privs : List (MethodName × Nat) := lw_privs_1 ++ (lw_privs_2 ++ (lw_privs_3 ++ (lw_privs_4 ++ (lw_privs_5 ++ (lw_privs_6 ++ (lw_privs_7))))))
def lw_tbl : List Cond := k2_sels lw_privs ++ tables_1
theorem lw_privs_ok : ∀ q ∈ lw_privs, lw_okq q := by
  show ∀ q ∈ lw_privs_1 ++ (lw_privs_2 ++ (lw_privs_3 ++ (lw_privs_4 ++ (lw_privs_5 ++ (lw_privs_6 ++ (lw_privs_7)))))), lw_okq q
  exact List.forall_mem_append.mpr ⟨lw_r1, List.forall_mem_append.mpr ⟨lw_r2, List.forall_mem_append.mpr ⟨lw_r3, List.forall_mem_append.mpr ⟨lw_r4, List.forall_mem_append.mpr ⟨lw_r5, List.forall_mem_append.mpr ⟨lw_r6, lw_r7⟩⟩⟩⟩⟩⟩
end
section
def RX0 : String := "ProxyVotes$Committee"
def TX0 : u_T := fun k => match k with
  | 0 => ("ProxyVotes$Committee", "minute", "I", false)
  | 1 => ("ProxyVotes$Committee", "memberCount", "I", false)
  | 2 => ("ProxyVotes$Committee", "itemCount", "I", false)
  | 3 => ("ProxyVotes$Committee", "present", "I", false)
  | 4 => ("ProxyVotes$Committee", "chairNamed", "I", false)
  | 5 => ("ProxyVotes$Committee", "settings", "[I", true)
  | 6 => ("ProxyVotes$Committee", "weights", "[I", true)
  | 7 => ("ProxyVotes$Committee", "groups", "[I", true)
  | 8 => ("ProxyVotes$Committee", "holders", "[I", true)
  | 9 => ("ProxyVotes$Committee", "items", "[LProxyVotes$Item;", true)
  | _ => ("ProxyVotes$Committee", "movements", "LProxyVotes$Movements;", true)
def tyX0 : Nat → FieldType := fun k => match k with
  | 0 => .int
  | 1 => .int
  | 2 => .int
  | 3 => .int
  | 4 => .int
  | 5 => .array .int
  | 6 => .array .int
  | 7 => .array .int
  | 8 => .array .int
  | 9 => .array (.object "ProxyVotes$Item")
  | _ => .object "ProxyVotes$Movements"
theorem nmX0 : ∀ a, a < 11 → ∀ b, b < 11 → a ≠ b → (TX0 a).2.1 ≠ (TX0 b).2.1 := by decide +kernel
theorem tyX0_ok : ∀ k, k < 11 → parseFieldDescriptor (TX0 k).2.2.1 = some (tyX0 k) := by decide +kernel
def RX1 : String := "ProxyVotes$Hearing"
def TX1 : u_T := fun k => match k with
  | 0 => ("ProxyVotes$Hearing", "speakers", "[I", true)
  | 1 => ("ProxyVotes$Hearing", "loads", "[I", true)
  | _ => ("ProxyVotes$Hearing", "sums", "[I", true)
def tyX1 : Nat → FieldType := fun k => match k with
  | 0 => .array .int
  | 1 => .array .int
  | _ => .array .int
theorem nmX1 : ∀ a, a < 3 → ∀ b, b < 3 → a ≠ b → (TX1 a).2.1 ≠ (TX1 b).2.1 := by decide +kernel
theorem tyX1_ok : ∀ k, k < 3 → parseFieldDescriptor (TX1 k).2.2.1 = some (tyX1 k) := by decide +kernel
def RX2 : String := "ProxyVotes$History"
def TX2 : u_T := fun k => match k with
  | 0 => ("ProxyVotes$History", "states", "[LProxyVotes$Committee;", true)
  | 1 => ("ProxyVotes$History", "spare", "I", false)
  | _ => ("ProxyVotes$History", "kept", "I", false)
def tyX2 : Nat → FieldType := fun k => match k with
  | 0 => .array (.object "ProxyVotes$Committee")
  | 1 => .int
  | _ => .int
theorem nmX2 : ∀ a, a < 3 → ∀ b, b < 3 → a ≠ b → (TX2 a).2.1 ≠ (TX2 b).2.1 := by decide +kernel
theorem tyX2_ok : ∀ k, k < 3 → parseFieldDescriptor (TX2 k).2.2.1 = some (tyX2 k) := by decide +kernel
def RX3 : String := "ProxyVotes$Item"
def TX3 : u_T := fun k => match k with
  | 0 => ("ProxyVotes$Item", "kind", "I", false)
  | 1 => ("ProxyVotes$Item", "touched", "I", false)
  | 2 => ("ProxyVotes$Item", "state", "I", false)
  | 3 => ("ProxyVotes$Item", "recusedByHand", "I", false)
  | 4 => ("ProxyVotes$Item", "breaker", "I", false)
  | 5 => ("ProxyVotes$Item", "timesPutOff", "I", false)
  | 6 => ("ProxyVotes$Item", "sums", "[I", true)
  | 7 => ("ProxyVotes$Item", "votes", "[I", true)
  | 8 => ("ProxyVotes$Item", "told", "[I", true)
  | _ => ("ProxyVotes$Item", "holders", "[I", true)
def tyX3 : Nat → FieldType := fun k => match k with
  | 0 => .int
  | 1 => .int
  | 2 => .int
  | 3 => .int
  | 4 => .int
  | 5 => .int
  | 6 => .array .int
  | 7 => .array .int
  | 8 => .array .int
  | _ => .array .int
theorem nmX3 : ∀ a, a < 10 → ∀ b, b < 10 → a ≠ b → (TX3 a).2.1 ≠ (TX3 b).2.1 := by decide +kernel
theorem tyX3_ok : ∀ k, k < 10 → parseFieldDescriptor (TX3 k).2.2.1 = some (tyX3 k) := by decide +kernel
def RX4 : String := "ProxyVotes$Movements"
def TX4 : u_T := fun k => match k with
  | 0 => ("ProxyVotes$Movements", "number", "I", false)
  | 1 => ("ProxyVotes$Movements", "minutes", "[I", true)
  | 2 => ("ProxyVotes$Movements", "movers", "[I", true)
  | _ => ("ProxyVotes$Movements", "comings", "[I", true)
def tyX4 : Nat → FieldType := fun k => match k with
  | 0 => .int
  | 1 => .array .int
  | 2 => .array .int
  | _ => .array .int
theorem nmX4 : ∀ a, a < 4 → ∀ b, b < 4 → a ≠ b → (TX4 a).2.1 ≠ (TX4 b).2.1 := by decide +kernel
theorem tyX4_ok : ∀ k, k < 4 → parseFieldDescriptor (TX4 k).2.2.1 = some (tyX4 k) := by decide +kernel
def RX5 : String := "ProxyVotes$Pad"
def TX5 : u_T := fun k => match k with
  | 0 => ("ProxyVotes$Pad", "text", "[C", true)
  | 1 => ("ProxyVotes$Pad", "length", "I", false)
  | 2 => ("ProxyVotes$Pad", "place", "I", false)
  | 3 => ("ProxyVotes$Pad", "orders", "I", false)
  | 4 => ("ProxyVotes$Pad", "signs", "[C", true)
  | 5 => ("ProxyVotes$Pad", "members", "[I", true)
  | _ => ("ProxyVotes$Pad", "numbers", "[I", true)
def tyX5 : Nat → FieldType := fun k => match k with
  | 0 => .array .char
  | 1 => .int
  | 2 => .int
  | 3 => .int
  | 4 => .array .char
  | 5 => .array .int
  | _ => .array .int
theorem nmX5 : ∀ a, a < 7 → ∀ b, b < 7 → a ≠ b → (TX5 a).2.1 ≠ (TX5 b).2.1 := by decide +kernel
theorem tyX5_ok : ∀ k, k < 7 → parseFieldDescriptor (TX5 k).2.2.1 = some (tyX5 k) := by decide +kernel
def RX6 : String := "ProxyVotes"
def TX6 : u_T := fun k => match k with
  | 0 => ("ProxyVotes", "now", "LProxyVotes$Committee;", true)
  | 1 => ("ProxyVotes", "trial", "LProxyVotes$Committee;", true)
  | 2 => ("ProxyVotes", "hearing", "LProxyVotes$Hearing;", true)
  | 3 => ("ProxyVotes", "history", "LProxyVotes$History;", true)
  | 4 => ("ProxyVotes", "pad", "LProxyVotes$Pad;", true)
  | 5 => ("ProxyVotes", "slots", "[LProxyVotes$Committee;", true)
  | 6 => ("ProxyVotes", "saved", "[Z", true)
  | 7 => ("ProxyVotes", "gains", "[I", true)
  | _ => ("ProxyVotes", "setsOfWeight", "[I", true)
def tyX6 : Nat → FieldType := fun k => match k with
  | 0 => .object "ProxyVotes$Committee"
  | 1 => .object "ProxyVotes$Committee"
  | 2 => .object "ProxyVotes$Hearing"
  | 3 => .object "ProxyVotes$History"
  | 4 => .object "ProxyVotes$Pad"
  | 5 => .array (.object "ProxyVotes$Committee")
  | 6 => .array .boolean
  | 7 => .array .int
  | _ => .array .int
theorem nmX6 : ∀ a, a < 9 → ∀ b, b < 9 → a ≠ b → (TX6 a).2.1 ≠ (TX6 b).2.1 := by decide +kernel
theorem tyX6_ok : ∀ k, k < 9 → parseFieldDescriptor (TX6 k).2.2.1 = some (tyX6 k) := by decide +kernel
def RX7 : String := "ProxyVotesModel"
def TX7 : u_T := fun k => match k with
  | 0 => ("ProxyVotesModel", "now", "[I", true)
  | 1 => ("ProxyVotesModel", "kept", "[I", true)
  | 2 => ("ProxyVotesModel", "history", "[I", true)
  | 3 => ("ProxyVotesModel", "undos", "I", false)
  | 4 => ("ProxyVotesModel", "saved", "[I", true)
  | 5 => ("ProxyVotesModel", "isSaved", "[Z", true)
  | 6 => ("ProxyVotesModel", "pad", "[I", true)
  | 7 => ("ProxyVotesModel", "signs", "I", false)
  | 8 => ("ProxyVotesModel", "isInText", "Z", false)
  | 9 => ("ProxyVotesModel", "voice", "[I", true)
  | 10 => ("ProxyVotesModel", "spoken", "[I", true)
  | 11 => ("ProxyVotesModel", "sum", "[I", true)
  | 12 => ("ProxyVotesModel", "orders", "[I", true)
  | 13 => ("ProxyVotesModel", "ordered", "I", false)
  | 14 => ("ProxyVotesModel", "place", "I", false)
  | _ => ("ProxyVotesModel", "isWrong", "Z", false)
def tyX7 : Nat → FieldType := fun k => match k with
  | 0 => .array .int
  | 1 => .array .int
  | 2 => .array .int
  | 3 => .int
  | 4 => .array .int
  | 5 => .array .boolean
  | 6 => .array .int
  | 7 => .int
  | 8 => .boolean
  | 9 => .array .int
  | 10 => .array .int
  | 11 => .array .int
  | 12 => .array .int
  | 13 => .int
  | 14 => .int
  | _ => .boolean
theorem nmX7 : ∀ a, a < 16 → ∀ b, b < 16 → a ≠ b → (TX7 a).2.1 ≠ (TX7 b).2.1 := by decide +kernel
theorem tyX7_ok : ∀ k, k < 16 → parseFieldDescriptor (TX7 k).2.2.1 = some (tyX7 k) := by decide +kernel
end
section
/-! THE FRAME: a small machine over lists of cells. A cell: its class's number (below 10) or 10 int[], 11 char[], 12 boolean[], 13 Item[], 14 Committee[]; its values. A reference is a cell's place in the list; 'retAddr k' stands for the read-only array k (0, 1: the two static ones, 2: the script). kJ: a frame at pc comes to the method's end with r and the cells g'. JM: a method's contract. -/
abbrev kE : Type := Nat × va_G × (Nat → ClassId) × (Nat → Nat × Nat × (Nat → Int32))
abbrev kC : Type := Nat × List Value
abbrev kM : Type := MethodName × ByteArray × Nat × Option FieldType × Nat × Nat × Nat × Nat
def kTv (E : kE) (v : Value) : Value := match v with
  | .ref i => .ref (E.1 + i)
  | .retAddr k => .ref (E.2.2.2 k).1
  | .int x => .int x
  | .long x => .long x
  | .float x => .float x
  | .double x => .double x
  | .null => .null
theorem kTv_cat (E : kE) (v : Value) : (kTv E v).category = v.category := by cases v <;> rfl
def kInt (v : Value) : Int32 := match v with
  | .int x => x
  | _ => 0
def kRef (E : kE) (v : Value) : Option Nat := match v with
  | .ref i => some (E.1 + i)
  | _ => none
def kTc (E : kE) (c : kC) : va_E := if c.1 < 10 then .inr (c.1, c.2.map (kTv E)) else if c.1 < 13 then .inl (E.2.2.1 (c.1 - 10), c.2.length, .inl (fun j => kInt (c.2.getD j .null))) else .inl (E.2.2.1 (c.1 - 10), c.2.length, .inr (.inr (.inr (.inr (fun j => kRef E (c.2.getD j .null))))))
def kWs (E : kE) (g : List kC) : va_W := g.mapIdx (fun i c => (E.1 + i, kTc E c))
theorem kWs_get (E : kE) (g : List kC) (i : Nat) : (kWs E g)[i]? = g[i]?.map (fun c => (E.1 + i, kTc E c)) := by
  simp [kWs, List.getElem?_mapIdx]
theorem kWs_at {E : kE} {g : List kC} {i : Nat} {c : kC} (h : g[i]? = some c) : (kWs E g)[i]? = some (E.1 + i, kTc E c) := by
  rw [kWs_get, h]; rfl
theorem kWs_set {E : kE} {g : List kC} {i : Nat} {c c0 : kC} (h : g[i]? = some c0) : kWs E (g.set i c) = (kWs E g).set i (E.1 + i, kTc E c) := by
  apply List.ext_getElem?
  intro j
  have hl : i < g.length := (List.getElem?_eq_some_iff.mp h).1
  rw [kWs_get, List.getElem?_set, List.getElem?_set]
  by_cases hj : i = j
  · subst hj
    have hl2 : i < (kWs E g).length := by simp [kWs, hl]
    simp [hl, hl2]
  · simp [hj, kWs_get]
theorem kWs_push (E : kE) (g : List kC) (c : kC) : kWs E (g ++ [c]) = kWs E g ++ [(E.1 + g.length, kTc E c)] := by
  simp [kWs]
abbrev kA (E : kE) : Nat → Prop := fun q => E.1 ≤ q
theorem kWs_D (E : kE) (g : List kC) : va_D (kA E) (kWs E g) := by
  have key : ∀ (k : Nat) (q : Nat × va_E), (kWs E g)[k]? = some q → q.1 = E.1 + k := by
    intro k q h
    rw [kWs_get] at h
    cases hc : g[k]? with
    | none => rw [hc] at h; cases h
    | some c => rw [hc] at h; cases h; rfl
  refine ⟨fun i j p q hp hq e => ?_, fun k q h => ?_⟩
  · rw [key i p hp, key j q hq] at e
    omega
  · show E.1 ≤ q.1
    rw [key k q h]
    omega
abbrev kCl : List vw_C := [(RX0, TX0, 11), (RX1, TX1, 3), (RX2, TX2, 3), (RX3, TX3, 10), (RX4, TX4, 4), (RX5, TX5, 7), (RX6, TX6, 9), (RX7, TX7, 16)]
def kTys (E : kE) : List (ClassId × FieldType) := [(E.2.2.1 0, .int), (E.2.2.1 1, .char), (E.2.2.1 2, .boolean), (E.2.2.1 3, .object RX3), (E.2.2.1 4, .object RX0)]
def kWG : List Cond := lw_tbl.filter goodWord
def kIsNest (w : Cond) : Bool := match w with
  | .fieldLinkNest .. => true
  | .methodLinkNest .. => true
  | _ => false
def kNest : List Cond := lw_tbl.filter kIsNest
/-- what holds of the tables and of the read-only arrays at a method's entry -/
def kEnv (E : kE) (U : State) : Prop := va_K E.2.1 kCl (kTys E) U ∧ (∀ w ∈ kNest, va_Nw w U) ∧ (va_AO RX3 U ∧ va_AO RX0 U) ∧ (∀ k, k < 3 → va_X (E.2.2.2 k).1 (E.2.2.2 k).2.1 (E.2.2.2 k).2.2 U U.heap ∧ (E.2.2.2 k).1 < E.1) ∧ (va_Z RX6 "FIRST_VALUES" "[I" (.ref (E.2.2.2 0).1) (kA E) U U.heap ∧ va_Z RX6 "HIGHEST_VALUES" "[I" (.ref (E.2.2.2 1).1) (kA E) U U.heap) ∧ E.1 ≤ U.heap.size
theorem kNest_is {w : Cond} (h : w ∈ kNest) : kIsNest w = true := (List.mem_filter.mp h).2
theorem kEnv.moved {E : kE} {u U : State} (h : kEnv E u) (hal : u.vm.Alike U.vm) (hn : ∀ w ∈ kNest, va_Nw w u → va_Nw w U) (hz : u.heap.size ≤ U.heap.size) (hk : ∀ q : Nat, q < u.heap.size → ¬ kA E q → U.heap[q]? = u.heap[q]?) : kEnv E U := by
  obtain ⟨h1, h2, h3, h4, h5, h6⟩ := h
  refine ⟨va_K.moved hal h1, fun w hw => hn w hw (h2 w hw), ⟨h3.1.moved hal, h3.2.moved hal⟩, fun k hk3 => ?_, ⟨?_, ?_⟩, Nat.le_trans h6 hz⟩
  · obtain ⟨a, b⟩ := h4 k hk3
    exact ⟨(a.moved hal).kept (hk _ (Nat.lt_of_lt_of_le b h6) (Nat.not_le.mpr b)), b⟩
  · exact (h5.1.moved hal).kept (fun a ha hb => hk a ha hb)
  · exact (h5.2.moved hal).kept (fun a ha hb => hk a ha hb)
theorem kNw_warm {w : Cond} (hw : w ∈ kNest) {s U : State} (hW : s.WarmedH U.vm) (h : va_Nw w s) : va_Nw w U := by
  have hn := kNest_is hw
  cases w <;> first | exact va_Nw.warmF hW h | exact va_Nw.warmM hW h | (simp [kIsNest] at hn)
theorem kNw_same {w : Cond} (hw : w ∈ kNest) {u U : State} (e : u.vm = U.vm) (h : va_Nw w u) : va_Nw w U := by
  have hn := kNest_is hw
  cases w <;> first | exact va_Nw.same rfl e h | (simp [kIsNest] at hn)
theorem kEnv.warm {E : kE} {s U : State} {locs : List Loc} (h : kEnv E s) (hW : s.WarmedH U.vm) (hS : va_S (kA E) s.heap U.heap locs) : kEnv E U :=
  h.moved hW.alike (fun _ hw hn => kNw_warm hw hW hn) hS.1 (fun q h1 h2 => hS.2.1 q h1 h2)
theorem kEnv.same {E : kE} {u U : State} (h : kEnv E u) (e : u.vm = U.vm) (eh : u.heap = U.heap) : kEnv E U :=
  h.moved (by rw [e]; exact Vm.Alike.refl U.vm) (fun _ hw hn => kNw_same hw e hn) (by rw [eh]; exact Nat.le_refl _) (fun q _ _ => by rw [eh])
/-- the cells of the heap -/
def kW (E : kE) (g : List kC) (H : Heap) : Prop := va_P E.2.1 kCl (kWs E g) H ∧ H.size = E.1 + g.length
theorem kW.put {E : kE} {g : List kC} {i : Nat} {c0 c : kC} {H H1 : Heap} (h : kW E g H) (hi : g[i]? = some c0) (z : H1.size = H.size) (oq : ∀ q : Nat, q ≠ E.1 + i → H1[q]? = H[q]?) (hc : va_at E.2.1 kCl (E.1 + i, kTc E c) H1) : kW E (g.set i c) H1 := by
  refine ⟨?_, by rw [z, h.2, List.length_set]⟩
  rw [kWs_set hi]
  exact h.1.set (kWs_D E g) (kWs_at hi) hc oq
theorem kW.push {E : kE} {g : List kC} {c : kC} {H H1 : Heap} (h : kW E g H) (z : H1.size = H.size + 1) (oq : ∀ q : Nat, q < H.size → H1[q]? = H[q]?) (hc : va_at E.2.1 kCl (H.size, kTc E c) H1) : kW E (g ++ [c]) H1 := by
  refine ⟨?_, by rw [z, h.2, List.length_append]; rfl⟩
  rw [kWs_push, ← h.2]
  refine (h.1.kept (fun k x hx => oq x.1 ((h.1 k x hx).lt))).app (fun k x hx => ?_)
  have hz : k < 1 := (List.getElem?_eq_some_iff.mp hx).1
  rw [show k = 0 by omega] at hx
  cases hx
  exact hc
abbrev kY (M : kM) : MethodName := M.1
abbrev kB (M : kM) : ByteArray := M.2.1
abbrev kL (M : kM) : Nat := M.2.2.1
abbrev kR (M : kM) : Option FieldType := M.2.2.2.1
abbrev kMC (M : kM) : Nat := M.2.2.2.2.2.1
abbrev kMS (M : kM) : Nat := M.2.2.2.2.2.2.1
abbrev krm (M : kM) : Room := { frames := M.2.2.2.2.1, cells := M.2.2.2.2.2.1, slots := M.2.2.2.2.2.2.1, locals := M.2.2.2.2.2.2.2 }
def kws (M : kM) : List Cond := .code (kY M) (kB M) (kL M) (kR M) :: kWG
def kPre (E : kE) (g : List kC) (av : List Value) : Array Value → State → Prop := va_Pc (av.map (kTv E)) (fun U => kEnv E U ∧ kW E g U.heap)
def kPost (E : kE) (r : Option Int32) (g' : List kC) : Array Value → State → Outcome → State → Prop := fun _ st oc t => (oc = .returned (r.map Value.int) ∧ kW E g' t.heap) ∧ va_F (kA E) st t
/-- a method's contract: called with av over the cells g, it returns r and leaves the cells g' -/
def JM (E : kE) (M : kM) (av : List Value) (g : List kC) (r : Option Int32) (g' : List kC) : Prop := ∀ l : Launch, Met l (kY M) (kws M) (krm M) (kPre E g av) (kPost E r g') (kMC M) (kMS M) (kA E)
theorem kPre_blind (E : kE) (g : List kC) (av : List Value) : FrameBlind (kPre E g av) := by
  intro a U f mk h
  obtain ⟨h1, h2, h3⟩ := h
  exact ⟨h1, h2.same rfl rfl, h3⟩
def kFr (E : kE) (M : kM) (p : Program) (s : State) (m : MethodId) (args : Array Value) (meth : Method) (c : Code) : Prop :=
  p.tables.exec = Jvm.exec ∧ c.code = kB M ∧ c.maxLocals = kL M ∧ meth.sig.returnType = kR M ∧ meth.locks = false ∧ s.vm.findClass (kY M).cls = some m.cls ∧ (∀ w ∈ kWG, w.before args s = true) ∧ meth.name = (kY M).name ∧ kEnv E s
def kEx (E : kE) (M : kM) (r : Option Int32) (g' : List kC) (p : Program) (l : Launch) (e : Env) (R : Room) (s : State) (m : MethodId) (args : Array Value) (below : List Frame) (meth : Method) (c : Code) (PQ : State → Prop) : Prop :=
  ∀ (H : Heap) (locs : List Loc) (pc : Nat) (ls : Array Slot) (fc fs : Nat), kW E g' H → va_S (kA E) s.heap H locs → fc ≤ kMC M → fs ≤ kMS M → ((r = none ∧ kR M = none ∧ decode (kB M) pc = .ok (.return_, 1)) ∨ (∃ v ty, r = some v ∧ kR M = some ty ∧ narrow ty (.int v) = .int v ∧ decode (kB M) pc = .ok (.ireturn, 1))) →
    W p l e R s m args below meth c H locs fc fs PQ (F0 m pc ls (r.map Value.int).toList)
abbrev kLv : Type := List (Nat × Value)
def kTl (E : kE) (lv : kLv) : kLv := lv.map (fun q => (q.1, kTv E q.2))
/-- a frame of the method M, at pc, comes to its end with r and the cells g' -/
def kJ (E : kE) (M : kM) (r : Option Int32) (g' : List kC) (fc fs pc : Nat) (lv : kLv) (st : List Value) (g : List kC) : Prop :=
  ∀ (p : Program) (l : Launch) (e : Env) (s : State) (m : MethodId) (args : Array Value) (below : List Frame) (meth : Method) (c : Code), kFr E M p s m args meth c →
  ∀ (R : Room), R = krm M → ∀ (PQ : State → Prop), kEx E M r g' p l e R s m args below meth c PQ →
  ∀ (H : Heap) (locs : List Loc) (ls : Array Slot), lv_has ls (kL M) (kTl E lv) → kW E g H → va_S (kA E) s.heap H locs →
  W p l e R s m args below meth c H locs fc fs PQ (F0 m pc ls (st.map (kTv E)))
theorem kTl_args (E : kE) : ∀ (i : Nat) (av : List Value), lv_args i (av.map (kTv E)) = kTl E (lv_args i av)
  | _, [] => rfl
  | i, v :: vs => by
    simp only [List.map_cons, lv_args, kTl, kTv_cat]
    rw [kTl_args E]
    rfl
theorem lg_sl_kTv (E : kE) (av : List Value) : (lg_sl (av.map (kTv E))).length = (lg_sl av).length := by
  induction av with
  | nil => rfl
  | cons v vs ih => cases v <;> simp_all [lg_sl, kTv, Value.category]
theorem JM.of {E : kE} {M : kM} {av : List Value} {g : List kC} {r : Option Int32} {g' : List kC} (hp : plainName (kY M).cls = true) (hn : (lg_sl av).length ≤ kL M) (k : kJ E M r g' 0 0 0 (lv_args 0 av) [] g) : JM E M av g r g' := by
  intro l
  refine Met.ofW (ws := kws M) (ws' := kWG) (cc := kB M) (maxL := kL M) (ret := kR M) hp rfl ?_
  intro p e s m args below meth c s₁ B hml hv
  obtain ⟨rfl, hE, hW⟩ := hv
  have hts := atoms_spec (ws := kws M) B.pre
  have hlk : meth.locks = false := B.notSynchronized
  have hl := lv_entry (av.map (kTv E)) (n := kL M) (by rw [lg_sl_kTv]; exact hn)
  rw [kTl_args] at hl
  rw [lg_entry_eq]
  refine k p l e s m _ below meth c ⟨B.exec, B.bytes, hml, B.returns, hlk, findClass_of_methodNamed B.named, fun w hw => hts w (List.mem_cons_of_mem _ hw), (name_of_methodNamed B.named B.method).1, hE⟩ (krm M) rfl _ ?_ s.heap [] _ hl hW va_S.rf
  intro H locs pc ls fc fs hW2 hS hfc hfs hd
  refine W.widen (k := kMC M) (n := kMS M) hfc hfs ?_
  rcases hd with ⟨rfl, hr, hd⟩ | ⟨v, ty, rfl, hr, hnw, hd⟩
  · exact W.vret B.exec B.bytes (B.returns.trans hr) (fun t ht hWt => ⟨⟨rfl, by rw [ht]; exact hW2⟩, hS.F ht⟩) (fun q hq => hS.2.2 q hq) hd
  · exact W.zret B.exec B.bytes (B.returns.trans hr) hnw (fun t ht hWt => ⟨⟨rfl, by rw [ht]; exact hW2⟩, hS.F ht⟩) (fun q hq => hS.2.2 q hq) hd
end
section
/-! ROWS of the small machine: an instruction each. -/
section ROWS
variable {E : kE} {M : kM} {r : Option Int32} {g' : List kC} {fc fs pc : Nat} {lv : kLv} {st : List Value} {g : List kC}
theorem kJ_iconst (pc' : Nat) (v : Int32) {n : Int} (hd : decode (kB M) pc = .ok (.iconst n, 1)) (hv : Int32.ofInt n = v) (hp : pc + 1 = pc') (k : kJ E M r g' fc fs pc' lv (.int v :: st) g) : kJ E M r g' fc fs pc lv st g := by
  subst hp
  intro p l e s m args below meth c hF R hR PQ hEx H locs ls hl hW hS
  exact lv_iconst hF.1 hF.2.1 hd hv (k p l e s m args below meth c hF R hR PQ hEx H locs ls hl hW hS)
theorem kJ_bipush (pc' : Nat) (v : Int32) {n : Int} (hd : decode (kB M) pc = .ok (.bipush n, 2)) (hv : (Int8.ofInt n).toInt32 = v) (hp : pc + 2 = pc') (k : kJ E M r g' fc fs pc' lv (.int v :: st) g) : kJ E M r g' fc fs pc lv st g := by
  subst hp
  intro p l e s m args below meth c hF R hR PQ hEx H locs ls hl hW hS
  exact lv_bipush hF.1 hF.2.1 hd hv (k p l e s m args below meth c hF R hR PQ hEx H locs ls hl hW hS)
theorem kJ_sipush (pc' : Nat) (v : Int32) {n : Int} (hd : decode (kB M) pc = .ok (.sipush n, 3)) (hv : (Int16.ofInt n).toInt32 = v) (hp : pc + 3 = pc') (k : kJ E M r g' fc fs pc' lv (.int v :: st) g) : kJ E M r g' fc fs pc lv st g := by
  subst hp
  intro p l e s m args below meth c hF R hR PQ hEx H locs ls hl hW hS
  exact lv_sipush hF.1 hF.2.1 hd hv (k p l e s m args below meth c hF R hR PQ hEx H locs ls hl hW hS)
theorem kJ_lconst (pc' : Nat) (v : Int64) {n : Fin 2} (hd : decode (kB M) pc = .ok (.lconst n, 1)) (hv : Int64.ofNat (n : Nat) = v) (hp : pc + 1 = pc') (k : kJ E M r g' fc fs pc' lv (.long v :: st) g) : kJ E M r g' fc fs pc lv st g := by
  subst hp
  intro p l e s m args below meth c hF R hR PQ hEx H locs ls hl hW hS
  exact lv_lconst hF.1 hF.2.1 hd hv (k p l e s m args below meth c hF R hR PQ hEx H locs ls hl hW hS)
theorem kJ_ldcw (pc' : Nat) (v : Int32) {i : Nat} (hd : decode (kB M) pc = .ok (.ldc_w i, 3)) (hc : Cond.constant (kY M).cls i v ∈ kWG) (hp : pc + 3 = pc') (k : kJ E M r g' fc fs pc' lv (.int v :: st) g) : kJ E M r g' fc fs pc lv st g := by
  subst hp
  intro p l e s m args below meth c hF R hR PQ hEx H locs ls hl hW hS
  have k2 := k p l e s m args below meth c hF R hR PQ hEx H locs ls hl hW hS
  obtain ⟨hx, hb, hml, hr, hlk, hown, hts, hnm, hE⟩ := hF
  exact lv_ldcw hx hb hown (hts _ hc) hd k2
theorem kJ_ldc2 (pc' : Nat) (v : Int64) {i : Nat} (hd : decode (kB M) pc = .ok (.ldc2_w i, 3)) (hc : Cond.constantLong (kY M).cls i v ∈ kWG) (hp : pc + 3 = pc') (k : kJ E M r g' fc fs pc' lv (.long v :: st) g) : kJ E M r g' fc fs pc lv st g := by
  subst hp
  intro p l e s m args below meth c hF R hR PQ hEx H locs ls hl hW hS
  have k2 := k p l e s m args below meth c hF R hR PQ hEx H locs ls hl hW hS
  obtain ⟨hx, hb, hml, hr, hlk, hown, hts, hnm, hE⟩ := hF
  exact lv_ldc2 hx hb hown (hts _ hc) hd k2
theorem kTl_at {ls : Array Slot} {nL : Nat} (hl : lv_has ls nL (kTl E lv)) (q : Nat) {i : Nat} {v : Value} (h : lv[q]? = some (i, v)) : ls[i]? = some (.val (kTv E v)) := by
  refine lv_at hl q ?_
  simp [kTl, h]
theorem kJ_iload_n (pc' q : Nat) {n : Fin 4} {i : Nat} {x : Int32} (hd : decode (kB M) pc = .ok (.iload_n n, 1)) (hi : (n : Nat) = i) (h : lv[q]? = some (i, .int x)) (hp : pc + 1 = pc') (k : kJ E M r g' fc fs pc' lv (.int x :: st) g) : kJ E M r g' fc fs pc lv st g := by
  subst hp
  intro p l e s m args below meth c hF R hR PQ hEx H locs ls hl hW hS
  exact lv_iload_n hF.1 hF.2.1 hd hi (kTl_at hl q h) (k p l e s m args below meth c hF R hR PQ hEx H locs ls hl hW hS)
theorem kJ_iload (pc' q : Nat) {i : Nat} {x : Int32} (hd : decode (kB M) pc = .ok (.iload i, 2)) (h : lv[q]? = some (i, .int x)) (hp : pc + 2 = pc') (k : kJ E M r g' fc fs pc' lv (.int x :: st) g) : kJ E M r g' fc fs pc lv st g := by
  subst hp
  intro p l e s m args below meth c hF R hR PQ hEx H locs ls hl hW hS
  exact lv_iload hF.1 hF.2.1 hd (kTl_at hl q h) (k p l e s m args below meth c hF R hR PQ hEx H locs ls hl hW hS)
theorem kJ_lload_n (pc' q : Nat) {n : Fin 4} {i : Nat} {x : Int64} (hd : decode (kB M) pc = .ok (.lload_n n, 1)) (hi : (n : Nat) = i) (h : lv[q]? = some (i, .long x)) (hp : pc + 1 = pc') (k : kJ E M r g' fc fs pc' lv (.long x :: st) g) : kJ E M r g' fc fs pc lv st g := by
  subst hp
  intro p l e s m args below meth c hF R hR PQ hEx H locs ls hl hW hS
  exact lv_lload_n hF.1 hF.2.1 hd hi (kTl_at hl q h) (k p l e s m args below meth c hF R hR PQ hEx H locs ls hl hW hS)
theorem kJ_lload (pc' q : Nat) {i : Nat} {x : Int64} (hd : decode (kB M) pc = .ok (.lload i, 2)) (h : lv[q]? = some (i, .long x)) (hp : pc + 2 = pc') (k : kJ E M r g' fc fs pc' lv (.long x :: st) g) : kJ E M r g' fc fs pc lv st g := by
  subst hp
  intro p l e s m args below meth c hF R hR PQ hEx H locs ls hl hW hS
  exact lv_lload hF.1 hF.2.1 hd (kTl_at hl q h) (k p l e s m args below meth c hF R hR PQ hEx H locs ls hl hW hS)
def kIsRef (v : Value) : Bool := match v with
  | .ref _ => true
  | .retAddr _ => true
  | _ => false
theorem kIsRef_tv {v : Value} (h : kIsRef v = true) (E : kE) : ∃ a : Nat, kTv E v = .ref a := by
  cases v <;> first | exact ⟨_, rfl⟩ | (simp [kIsRef] at h)
theorem kJ_aload_n (pc' q : Nat) {n : Fin 4} {i : Nat} {v : Value} (hd : decode (kB M) pc = .ok (.aload_n n, 1)) (hi : (n : Nat) = i) (h : lv[q]? = some (i, v)) (hv : kIsRef v = true) (hp : pc + 1 = pc') (k : kJ E M r g' fc fs pc' lv (v :: st) g) : kJ E M r g' fc fs pc lv st g := by
  subst hp
  intro p l e s m args below meth c hF R hR PQ hEx H locs ls hl hW hS
  have k2 := k p l e s m args below meth c hF R hR PQ hEx H locs ls hl hW hS
  have h2 := kTl_at hl q h
  obtain ⟨a, ha⟩ := kIsRef_tv hv E
  rw [List.map_cons, ha] at k2
  rw [ha] at h2
  exact lv_aload_n hF.1 hF.2.1 hd hi h2 k2
theorem kJ_aload (pc' q : Nat) {i : Nat} {v : Value} (hd : decode (kB M) pc = .ok (.aload i, 2)) (h : lv[q]? = some (i, v)) (hv : kIsRef v = true) (hp : pc + 2 = pc') (k : kJ E M r g' fc fs pc' lv (v :: st) g) : kJ E M r g' fc fs pc lv st g := by
  subst hp
  intro p l e s m args below meth c hF R hR PQ hEx H locs ls hl hW hS
  have k2 := k p l e s m args below meth c hF R hR PQ hEx H locs ls hl hW hS
  have h2 := kTl_at hl q h
  obtain ⟨a, ha⟩ := kIsRef_tv hv E
  rw [List.map_cons, ha] at k2
  rw [ha] at h2
  exact lv_aload hF.1 hF.2.1 hd h2 k2
def kSt (lv : kLv) (i : Nat) (v : Value) : kLv := (i, v) :: lv.filter (fun q => !(q.1 == i) && !(q.1 + 1 == i && q.2.category == 2))
def kSt2 (lv : kLv) (i : Nat) (v : Value) : kLv := (i, v) :: lv.filter (fun q => !(q.1 == i) && (!(q.1 == i + 1) && !(q.1 + 1 == i && q.2.category == 2)))
theorem kTl_st (E : kE) (lv : kLv) (i : Nat) (v : Value) : (i, kTv E v) :: (kTl E lv).filter (fun q => !(q.1 == i) && !(q.1 + 1 == i && q.2.category == 2)) = kTl E (kSt lv i v) := by
  simp only [kTl, kSt, List.map_cons, List.filter_map]
  congr 3
  funext q
  simp only [Function.comp, kTv_cat]
theorem kTl_st2 (E : kE) (lv : kLv) (i : Nat) (v : Value) : (i, kTv E v) :: (kTl E lv).filter (fun q => !(q.1 == i) && (!(q.1 == i + 1) && !(q.1 + 1 == i && q.2.category == 2))) = kTl E (kSt2 lv i v) := by
  simp only [kTl, kSt2, List.map_cons, List.filter_map]
  congr 3
  funext q
  simp only [Function.comp, kTv_cat]
theorem kJ_istore_n (pc' : Nat) (lv' : kLv) {n : Fin 4} {i : Nat} {x : Int32} (hd : decode (kB M) pc = .ok (.istore_n n, 1)) (hi : (n : Nat) = i) (hn : i < kL M) (hl' : kSt lv i (.int x) = lv') (hp : pc + 1 = pc') (k : kJ E M r g' fc fs pc' lv' st g) : kJ E M r g' fc fs pc lv (.int x :: st) g := by
  subst hp; subst hl'
  intro p l e s m args below meth c hF R hR PQ hEx H locs ls hl hW hS
  exact lv_istore_n hF.1 hF.2.1 hd hi hl hn (kTl_st E lv i (.int x)) (fun ls' hl' => k p l e s m args below meth c hF R hR PQ hEx H locs ls' hl' hW hS)
theorem kJ_istore (pc' : Nat) (lv' : kLv) {i : Nat} {x : Int32} (hd : decode (kB M) pc = .ok (.istore i, 2)) (hn : i < kL M) (hl' : kSt lv i (.int x) = lv') (hp : pc + 2 = pc') (k : kJ E M r g' fc fs pc' lv' st g) : kJ E M r g' fc fs pc lv (.int x :: st) g := by
  subst hp; subst hl'
  intro p l e s m args below meth c hF R hR PQ hEx H locs ls hl hW hS
  exact lv_istore hF.1 hF.2.1 hd hl hn (kTl_st E lv i (.int x)) (fun ls' hl' => k p l e s m args below meth c hF R hR PQ hEx H locs ls' hl' hW hS)
theorem kJ_lstore_n (pc' : Nat) (lv' : kLv) {n : Fin 4} {i : Nat} {x : Int64} (hd : decode (kB M) pc = .ok (.lstore_n n, 1)) (hi : (n : Nat) = i) (hn : i + 1 < kL M) (hl' : kSt2 lv i (.long x) = lv') (hp : pc + 1 = pc') (k : kJ E M r g' fc fs pc' lv' st g) : kJ E M r g' fc fs pc lv (.long x :: st) g := by
  subst hp; subst hl'
  intro p l e s m args below meth c hF R hR PQ hEx H locs ls hl hW hS
  exact lv_lstore_n hF.1 hF.2.1 hd hi hl hn (kTl_st2 E lv i (.long x)) (fun ls' hl' => k p l e s m args below meth c hF R hR PQ hEx H locs ls' hl' hW hS)
theorem kJ_lstore (pc' : Nat) (lv' : kLv) {i : Nat} {x : Int64} (hd : decode (kB M) pc = .ok (.lstore i, 2)) (hn : i + 1 < kL M) (hl' : kSt2 lv i (.long x) = lv') (hp : pc + 2 = pc') (k : kJ E M r g' fc fs pc' lv' st g) : kJ E M r g' fc fs pc lv (.long x :: st) g := by
  subst hp; subst hl'
  intro p l e s m args below meth c hF R hR PQ hEx H locs ls hl hW hS
  exact lv_lstore hF.1 hF.2.1 hd hl hn (kTl_st2 E lv i (.long x)) (fun ls' hl' => k p l e s m args below meth c hF R hR PQ hEx H locs ls' hl' hW hS)
theorem kJ_astore_n (pc' : Nat) (lv' : kLv) {n : Fin 4} {i : Nat} {v : Value} (hd : decode (kB M) pc = .ok (.astore_n n, 1)) (hi : (n : Nat) = i) (hn : i < kL M) (hv : kIsRef v = true) (hl' : kSt lv i v = lv') (hp : pc + 1 = pc') (k : kJ E M r g' fc fs pc' lv' st g) : kJ E M r g' fc fs pc lv (v :: st) g := by
  subst hp; subst hl'
  intro p l e s m args below meth c hF R hR PQ hEx H locs ls hl hW hS
  have h3 := kTl_st E lv i v
  rw [List.map_cons]
  obtain ⟨a, ha⟩ := kIsRef_tv hv E
  rw [ha] at h3 ⊢
  exact lv_astore_n hF.1 hF.2.1 hd hi hl hn h3 (fun ls' hl' => k p l e s m args below meth c hF R hR PQ hEx H locs ls' hl' hW hS)
theorem kJ_astore (pc' : Nat) (lv' : kLv) {i : Nat} {v : Value} (hd : decode (kB M) pc = .ok (.astore i, 2)) (hn : i < kL M) (hv : kIsRef v = true) (hl' : kSt lv i v = lv') (hp : pc + 2 = pc') (k : kJ E M r g' fc fs pc' lv' st g) : kJ E M r g' fc fs pc lv (v :: st) g := by
  subst hp; subst hl'
  intro p l e s m args below meth c hF R hR PQ hEx H locs ls hl hW hS
  have h3 := kTl_st E lv i v
  rw [List.map_cons]
  obtain ⟨a, ha⟩ := kIsRef_tv hv E
  rw [ha] at h3 ⊢
  exact lv_astore hF.1 hF.2.1 hd hl hn h3 (fun ls' hl' => k p l e s m args below meth c hF R hR PQ hEx H locs ls' hl' hW hS)
theorem kJ_iinc (pc' q : Nat) (lv' : kLv) {i : Nat} {n : Int} {x d : Int32} (hd : decode (kB M) pc = .ok (.iinc i n, 3)) (h : lv[q]? = some (i, .int x)) (hv : Int32.ofInt n = d) (hn : i < kL M) (hl' : kSt lv i (.int (x + d)) = lv') (hp : pc + 3 = pc') (k : kJ E M r g' fc fs pc' lv' st g) : kJ E M r g' fc fs pc lv st g := by
  subst hp; subst hl'; subst hv
  intro p l e s m args below meth c hF R hR PQ hEx H locs ls hl hW hS
  exact lv_iinc (k := q) (x := x) (v := x + Int32.ofInt n) hF.1 hF.2.1 hd hl (by simp [kTl, h, kTv]) rfl hn (kTl_st E lv i (.int (x + Int32.ofInt n))) (fun ls' hl' => k p l e s m args below meth c hF R hR PQ hEx H locs ls' hl' hW hS)
theorem kJ_iadd (pc' : Nat) {x y : Int32} (hd : decode (kB M) pc = .ok (.iadd, 1)) (hp : pc + 1 = pc') (k : kJ E M r g' fc fs pc' lv (.int (x + y) :: st) g) : kJ E M r g' fc fs pc lv (.int y :: .int x :: st) g := by
  subst hp
  intro p l e s m args below meth c hF R hR PQ hEx H locs ls hl hW hS
  exact lv_iadd hF.1 hF.2.1 hd (k p l e s m args below meth c hF R hR PQ hEx H locs ls hl hW hS)
theorem kJ_isub (pc' : Nat) {x y : Int32} (hd : decode (kB M) pc = .ok (.isub, 1)) (hp : pc + 1 = pc') (k : kJ E M r g' fc fs pc' lv (.int (x - y) :: st) g) : kJ E M r g' fc fs pc lv (.int y :: .int x :: st) g := by
  subst hp
  intro p l e s m args below meth c hF R hR PQ hEx H locs ls hl hW hS
  exact lv_isub hF.1 hF.2.1 hd (k p l e s m args below meth c hF R hR PQ hEx H locs ls hl hW hS)
theorem kJ_imul (pc' : Nat) {x y : Int32} (hd : decode (kB M) pc = .ok (.imul, 1)) (hp : pc + 1 = pc') (k : kJ E M r g' fc fs pc' lv (.int (x * y) :: st) g) : kJ E M r g' fc fs pc lv (.int y :: .int x :: st) g := by
  subst hp
  intro p l e s m args below meth c hF R hR PQ hEx H locs ls hl hW hS
  exact lv_imul hF.1 hF.2.1 hd (k p l e s m args below meth c hF R hR PQ hEx H locs ls hl hW hS)
theorem kJ_iand (pc' : Nat) {x y : Int32} (hd : decode (kB M) pc = .ok (.iand, 1)) (hp : pc + 1 = pc') (k : kJ E M r g' fc fs pc' lv (.int (x &&& y) :: st) g) : kJ E M r g' fc fs pc lv (.int y :: .int x :: st) g := by
  subst hp
  intro p l e s m args below meth c hF R hR PQ hEx H locs ls hl hW hS
  exact lv_iand hF.1 hF.2.1 hd (k p l e s m args below meth c hF R hR PQ hEx H locs ls hl hW hS)
theorem kJ_ior (pc' : Nat) {x y : Int32} (hd : decode (kB M) pc = .ok (.ior, 1)) (hp : pc + 1 = pc') (k : kJ E M r g' fc fs pc' lv (.int (x ||| y) :: st) g) : kJ E M r g' fc fs pc lv (.int y :: .int x :: st) g := by
  subst hp
  intro p l e s m args below meth c hF R hR PQ hEx H locs ls hl hW hS
  exact lv_ior hF.1 hF.2.1 hd (k p l e s m args below meth c hF R hR PQ hEx H locs ls hl hW hS)
theorem kJ_ixor (pc' : Nat) {x y : Int32} (hd : decode (kB M) pc = .ok (.ixor, 1)) (hp : pc + 1 = pc') (k : kJ E M r g' fc fs pc' lv (.int (x ^^^ y) :: st) g) : kJ E M r g' fc fs pc lv (.int y :: .int x :: st) g := by
  subst hp
  intro p l e s m args below meth c hF R hR PQ hEx H locs ls hl hW hS
  exact lv_ixor hF.1 hF.2.1 hd (k p l e s m args below meth c hF R hR PQ hEx H locs ls hl hW hS)
theorem kJ_ishl (pc' : Nat) {x y : Int32} (hd : decode (kB M) pc = .ok (.ishl, 1)) (hp : pc + 1 = pc') (k : kJ E M r g' fc fs pc' lv (.int (x <<< (y &&& 31)) :: st) g) : kJ E M r g' fc fs pc lv (.int y :: .int x :: st) g := by
  subst hp
  intro p l e s m args below meth c hF R hR PQ hEx H locs ls hl hW hS
  exact lv_ishl hF.1 hF.2.1 hd (k p l e s m args below meth c hF R hR PQ hEx H locs ls hl hW hS)
theorem kJ_ishr (pc' : Nat) {x y : Int32} (hd : decode (kB M) pc = .ok (.ishr, 1)) (hp : pc + 1 = pc') (k : kJ E M r g' fc fs pc' lv (.int (x >>> (y &&& 31)) :: st) g) : kJ E M r g' fc fs pc lv (.int y :: .int x :: st) g := by
  subst hp
  intro p l e s m args below meth c hF R hR PQ hEx H locs ls hl hW hS
  exact lv_ishr hF.1 hF.2.1 hd (k p l e s m args below meth c hF R hR PQ hEx H locs ls hl hW hS)
theorem kJ_iushr (pc' : Nat) {x y : Int32} (hd : decode (kB M) pc = .ok (.iushr, 1)) (hp : pc + 1 = pc') (k : kJ E M r g' fc fs pc' lv (.int ((x.toUInt32 >>> (y.toUInt32 &&& Int32.toUInt32 31)).toInt32) :: st) g) : kJ E M r g' fc fs pc lv (.int y :: .int x :: st) g := by
  subst hp
  intro p l e s m args below meth c hF R hR PQ hEx H locs ls hl hW hS
  exact lv_iushr hF.1 hF.2.1 hd rfl (k p l e s m args below meth c hF R hR PQ hEx H locs ls hl hW hS)
theorem kJ_land (pc' : Nat) {x y : Int64} (hd : decode (kB M) pc = .ok (.land, 1)) (hp : pc + 1 = pc') (k : kJ E M r g' fc fs pc' lv (.long (x &&& y) :: st) g) : kJ E M r g' fc fs pc lv (.long y :: .long x :: st) g := by
  subst hp
  intro p l e s m args below meth c hF R hR PQ hEx H locs ls hl hW hS
  exact lv_land hF.1 hF.2.1 hd (k p l e s m args below meth c hF R hR PQ hEx H locs ls hl hW hS)
theorem kJ_lor (pc' : Nat) {x y : Int64} (hd : decode (kB M) pc = .ok (.lor, 1)) (hp : pc + 1 = pc') (k : kJ E M r g' fc fs pc' lv (.long (x ||| y) :: st) g) : kJ E M r g' fc fs pc lv (.long y :: .long x :: st) g := by
  subst hp
  intro p l e s m args below meth c hF R hR PQ hEx H locs ls hl hW hS
  exact lv_lor hF.1 hF.2.1 hd (k p l e s m args below meth c hF R hR PQ hEx H locs ls hl hW hS)
theorem kJ_lshl (pc' : Nat) {x : Int64} {y : Int32} (hd : decode (kB M) pc = .ok (.lshl, 1)) (hp : pc + 1 = pc') (k : kJ E M r g' fc fs pc' lv (.long (x <<< (y.toInt64 &&& 63)) :: st) g) : kJ E M r g' fc fs pc lv (.int y :: .long x :: st) g := by
  subst hp
  intro p l e s m args below meth c hF R hR PQ hEx H locs ls hl hW hS
  exact lv_lshl hF.1 hF.2.1 hd rfl (k p l e s m args below meth c hF R hR PQ hEx H locs ls hl hW hS)
theorem kJ_lushr (pc' : Nat) {x : Int64} {y : Int32} (hd : decode (kB M) pc = .ok (.lushr, 1)) (hp : pc + 1 = pc') (k : kJ E M r g' fc fs pc' lv (.long ((x.toUInt64 >>> (y.toInt64.toUInt64 &&& Int64.toUInt64 63)).toInt64) :: st) g) : kJ E M r g' fc fs pc lv (.int y :: .long x :: st) g := by
  subst hp
  intro p l e s m args below meth c hF R hR PQ hEx H locs ls hl hW hS
  exact lv_lushr hF.1 hF.2.1 hd rfl (k p l e s m args below meth c hF R hR PQ hEx H locs ls hl hW hS)
theorem kJ_lcmp (pc' : Nat) {x y : Int64} (hd : decode (kB M) pc = .ok (.lcmp, 1)) (hp : pc + 1 = pc') (k : kJ E M r g' fc fs pc' lv (.int (lg_cmp x y) :: st) g) : kJ E M r g' fc fs pc lv (.long y :: .long x :: st) g := by
  subst hp
  intro p l e s m args below meth c hF R hR PQ hEx H locs ls hl hW hS
  exact W.lcmp hF.1 hF.2.1 hd (k p l e s m args below meth c hF R hR PQ hEx H locs ls hl hW hS)
theorem kJ_i2l (pc' : Nat) {x : Int32} (hd : decode (kB M) pc = .ok (.i2l, 1)) (hp : pc + 1 = pc') (k : kJ E M r g' fc fs pc' lv (.long x.toInt64 :: st) g) : kJ E M r g' fc fs pc lv (.int x :: st) g := by
  subst hp
  intro p l e s m args below meth c hF R hR PQ hEx H locs ls hl hW hS
  exact lv_i2l hF.1 hF.2.1 hd rfl (k p l e s m args below meth c hF R hR PQ hEx H locs ls hl hW hS)
theorem kJ_l2i (pc' : Nat) {x : Int64} (hd : decode (kB M) pc = .ok (.l2i, 1)) (hp : pc + 1 = pc') (k : kJ E M r g' fc fs pc' lv (.int x.toInt32 :: st) g) : kJ E M r g' fc fs pc lv (.long x :: st) g := by
  subst hp
  intro p l e s m args below meth c hF R hR PQ hEx H locs ls hl hW hS
  exact lv_l2i hF.1 hF.2.1 hd rfl (k p l e s m args below meth c hF R hR PQ hEx H locs ls hl hW hS)
theorem kJ_i2c (pc' : Nat) {x : Int32} (hd : decode (kB M) pc = .ok (.i2c, 1)) (hp : pc + 1 = pc') (k : kJ E M r g' fc fs pc' lv (.int (x.toUInt32 % 65536).toInt32 :: st) g) : kJ E M r g' fc fs pc lv (.int x :: st) g := by
  subst hp
  intro p l e s m args below meth c hF R hR PQ hEx H locs ls hl hW hS
  exact lv_i2c hF.1 hF.2.1 hd rfl (k p l e s m args below meth c hF R hR PQ hEx H locs ls hl hW hS)
theorem kJ_dup (pc' : Nat) {v : Value} (hd : decode (kB M) pc = .ok (.dup, 1)) (hv : v.category = 1) (hp : pc + 1 = pc') (k : kJ E M r g' fc fs pc' lv (v :: v :: st) g) : kJ E M r g' fc fs pc lv (v :: st) g := by
  subst hp
  intro p l e s m args below meth c hF R hR PQ hEx H locs ls hl hW hS
  exact lv_dup hF.1 hF.2.1 hd (by rw [kTv_cat]; exact hv) (k p l e s m args below meth c hF R hR PQ hEx H locs ls hl hW hS)
theorem kJ_pop (pc' : Nat) {v : Value} (hd : decode (kB M) pc = .ok (.pop, 1)) (hv : v.category = 1) (hp : pc + 1 = pc') (k : kJ E M r g' fc fs pc' lv st g) : kJ E M r g' fc fs pc lv (v :: st) g := by
  subst hp
  intro p l e s m args below meth c hF R hR PQ hEx H locs ls hl hW hS
  exact lv_pop hF.1 hF.2.1 hd (by rw [kTv_cat]; exact hv) (k p l e s m args below meth c hF R hR PQ hEx H locs ls hl hW hS)
theorem kJ_dup_x1 (pc' : Nat) {v w : Value} (hd : decode (kB M) pc = .ok (.dup_x1, 1)) (hv : v.category = 1) (hw : w.category = 1) (hp : pc + 1 = pc') (k : kJ E M r g' fc fs pc' lv (v :: w :: v :: st) g) : kJ E M r g' fc fs pc lv (v :: w :: st) g := by
  subst hp
  intro p l e s m args below meth c hF R hR PQ hEx H locs ls hl hW hS
  exact lv_dup_x1 hF.1 hF.2.1 hd (by rw [kTv_cat]; exact hv) (by rw [kTv_cat]; exact hw) (k p l e s m args below meth c hF R hR PQ hEx H locs ls hl hW hS)
theorem kJ_dup2 (pc' : Nat) {v w : Value} (hd : decode (kB M) pc = .ok (.dup2, 1)) (hv : v.category = 1) (hw : w.category = 1) (hp : pc + 1 = pc') (k : kJ E M r g' fc fs pc' lv (v :: w :: v :: w :: st) g) : kJ E M r g' fc fs pc lv (v :: w :: st) g := by
  subst hp
  intro p l e s m args below meth c hF R hR PQ hEx H locs ls hl hW hS
  exact lv_dup2_11 hF.1 hF.2.1 hd (by rw [kTv_cat]; exact hv) (by rw [kTv_cat]; exact hw) (k p l e s m args below meth c hF R hR PQ hEx H locs ls hl hW hS)
theorem kJ_goto (pc' : Nat) {o : Int} (hd : decode (kB M) pc = .ok (.goto o, 3)) (hp : (pc : Int) + o = (pc' : Int)) (k : kJ E M r g' fc fs pc' lv st g) : kJ E M r g' fc fs pc lv st g := by
  intro p l e s m args below meth c hF R hR PQ hEx H locs ls hl hW hS
  exact lv_goto hF.1 hF.2.1 hd hp (k p l e s m args below meth c hF R hR PQ hEx H locs ls hl hW hS)
theorem kJ_if_eq (pc' pt : Nat) {x : Int32} {o : Int} (hd : decode (kB M) pc = .ok (.ifCond .eq o, 3)) (ht : (pc : Int) + o = (pt : Int)) (hp : pc + 3 = pc') (kt : x = 0 → kJ E M r g' fc fs pt lv st g) (kf : ¬ x = 0 → kJ E M r g' fc fs pc' lv st g) : kJ E M r g' fc fs pc lv (.int x :: st) g := by
  subst hp
  intro p l e s m args below meth c hF R hR PQ hEx H locs ls hl hW hS
  exact lv_if_eq hF.1 hF.2.1 hd ht (fun z => kt z p l e s m args below meth c hF R hR PQ hEx H locs ls hl hW hS) (fun z => kf z p l e s m args below meth c hF R hR PQ hEx H locs ls hl hW hS)
theorem kJ_icmp_eq (pc' pt : Nat) {x y : Int32} {o : Int} (hd : decode (kB M) pc = .ok (.if_icmp .eq o, 3)) (ht : (pc : Int) + o = (pt : Int)) (hp : pc + 3 = pc') (kt : x = y → kJ E M r g' fc fs pt lv st g) (kf : ¬ x = y → kJ E M r g' fc fs pc' lv st g) : kJ E M r g' fc fs pc lv (.int y :: .int x :: st) g := by
  subst hp
  intro p l e s m args below meth c hF R hR PQ hEx H locs ls hl hW hS
  exact lv_icmp_eq hF.1 hF.2.1 hd ht (fun z => kt z p l e s m args below meth c hF R hR PQ hEx H locs ls hl hW hS) (fun z => kf z p l e s m args below meth c hF R hR PQ hEx H locs ls hl hW hS)
theorem kJ_if_ne (pc' pt : Nat) {x : Int32} {o : Int} (hd : decode (kB M) pc = .ok (.ifCond .ne o, 3)) (ht : (pc : Int) + o = (pt : Int)) (hp : pc + 3 = pc') (kt : ¬ x = 0 → kJ E M r g' fc fs pt lv st g) (kf : x = 0 → kJ E M r g' fc fs pc' lv st g) : kJ E M r g' fc fs pc lv (.int x :: st) g := by
  subst hp
  intro p l e s m args below meth c hF R hR PQ hEx H locs ls hl hW hS
  exact lv_if_ne hF.1 hF.2.1 hd ht (fun z => kt z p l e s m args below meth c hF R hR PQ hEx H locs ls hl hW hS) (fun z => kf z p l e s m args below meth c hF R hR PQ hEx H locs ls hl hW hS)
theorem kJ_icmp_ne (pc' pt : Nat) {x y : Int32} {o : Int} (hd : decode (kB M) pc = .ok (.if_icmp .ne o, 3)) (ht : (pc : Int) + o = (pt : Int)) (hp : pc + 3 = pc') (kt : ¬ x = y → kJ E M r g' fc fs pt lv st g) (kf : x = y → kJ E M r g' fc fs pc' lv st g) : kJ E M r g' fc fs pc lv (.int y :: .int x :: st) g := by
  subst hp
  intro p l e s m args below meth c hF R hR PQ hEx H locs ls hl hW hS
  exact lv_icmp_ne hF.1 hF.2.1 hd ht (fun z => kt z p l e s m args below meth c hF R hR PQ hEx H locs ls hl hW hS) (fun z => kf z p l e s m args below meth c hF R hR PQ hEx H locs ls hl hW hS)
theorem kJ_if_lt (pc' pt : Nat) {x : Int32} {o : Int} (hd : decode (kB M) pc = .ok (.ifCond .lt o, 3)) (ht : (pc : Int) + o = (pt : Int)) (hp : pc + 3 = pc') (kt : x < 0 → kJ E M r g' fc fs pt lv st g) (kf : ¬ x < 0 → kJ E M r g' fc fs pc' lv st g) : kJ E M r g' fc fs pc lv (.int x :: st) g := by
  subst hp
  intro p l e s m args below meth c hF R hR PQ hEx H locs ls hl hW hS
  exact lv_if_lt hF.1 hF.2.1 hd ht (fun z => kt z p l e s m args below meth c hF R hR PQ hEx H locs ls hl hW hS) (fun z => kf z p l e s m args below meth c hF R hR PQ hEx H locs ls hl hW hS)
theorem kJ_icmp_lt (pc' pt : Nat) {x y : Int32} {o : Int} (hd : decode (kB M) pc = .ok (.if_icmp .lt o, 3)) (ht : (pc : Int) + o = (pt : Int)) (hp : pc + 3 = pc') (kt : x < y → kJ E M r g' fc fs pt lv st g) (kf : ¬ x < y → kJ E M r g' fc fs pc' lv st g) : kJ E M r g' fc fs pc lv (.int y :: .int x :: st) g := by
  subst hp
  intro p l e s m args below meth c hF R hR PQ hEx H locs ls hl hW hS
  exact lv_icmp_lt hF.1 hF.2.1 hd ht (fun z => kt z p l e s m args below meth c hF R hR PQ hEx H locs ls hl hW hS) (fun z => kf z p l e s m args below meth c hF R hR PQ hEx H locs ls hl hW hS)
theorem kJ_if_ge (pc' pt : Nat) {x : Int32} {o : Int} (hd : decode (kB M) pc = .ok (.ifCond .ge o, 3)) (ht : (pc : Int) + o = (pt : Int)) (hp : pc + 3 = pc') (kt : 0 ≤ x → kJ E M r g' fc fs pt lv st g) (kf : ¬ 0 ≤ x → kJ E M r g' fc fs pc' lv st g) : kJ E M r g' fc fs pc lv (.int x :: st) g := by
  subst hp
  intro p l e s m args below meth c hF R hR PQ hEx H locs ls hl hW hS
  exact lv_if_ge hF.1 hF.2.1 hd ht (fun z => kt z p l e s m args below meth c hF R hR PQ hEx H locs ls hl hW hS) (fun z => kf z p l e s m args below meth c hF R hR PQ hEx H locs ls hl hW hS)
theorem kJ_icmp_ge (pc' pt : Nat) {x y : Int32} {o : Int} (hd : decode (kB M) pc = .ok (.if_icmp .ge o, 3)) (ht : (pc : Int) + o = (pt : Int)) (hp : pc + 3 = pc') (kt : y ≤ x → kJ E M r g' fc fs pt lv st g) (kf : ¬ y ≤ x → kJ E M r g' fc fs pc' lv st g) : kJ E M r g' fc fs pc lv (.int y :: .int x :: st) g := by
  subst hp
  intro p l e s m args below meth c hF R hR PQ hEx H locs ls hl hW hS
  exact lv_icmp_ge hF.1 hF.2.1 hd ht (fun z => kt z p l e s m args below meth c hF R hR PQ hEx H locs ls hl hW hS) (fun z => kf z p l e s m args below meth c hF R hR PQ hEx H locs ls hl hW hS)
theorem kJ_if_gt (pc' pt : Nat) {x : Int32} {o : Int} (hd : decode (kB M) pc = .ok (.ifCond .gt o, 3)) (ht : (pc : Int) + o = (pt : Int)) (hp : pc + 3 = pc') (kt : 0 < x → kJ E M r g' fc fs pt lv st g) (kf : ¬ 0 < x → kJ E M r g' fc fs pc' lv st g) : kJ E M r g' fc fs pc lv (.int x :: st) g := by
  subst hp
  intro p l e s m args below meth c hF R hR PQ hEx H locs ls hl hW hS
  exact lv_if_gt hF.1 hF.2.1 hd ht (fun z => kt z p l e s m args below meth c hF R hR PQ hEx H locs ls hl hW hS) (fun z => kf z p l e s m args below meth c hF R hR PQ hEx H locs ls hl hW hS)
theorem kJ_icmp_gt (pc' pt : Nat) {x y : Int32} {o : Int} (hd : decode (kB M) pc = .ok (.if_icmp .gt o, 3)) (ht : (pc : Int) + o = (pt : Int)) (hp : pc + 3 = pc') (kt : y < x → kJ E M r g' fc fs pt lv st g) (kf : ¬ y < x → kJ E M r g' fc fs pc' lv st g) : kJ E M r g' fc fs pc lv (.int y :: .int x :: st) g := by
  subst hp
  intro p l e s m args below meth c hF R hR PQ hEx H locs ls hl hW hS
  exact lv_icmp_gt hF.1 hF.2.1 hd ht (fun z => kt z p l e s m args below meth c hF R hR PQ hEx H locs ls hl hW hS) (fun z => kf z p l e s m args below meth c hF R hR PQ hEx H locs ls hl hW hS)
theorem kJ_if_le (pc' pt : Nat) {x : Int32} {o : Int} (hd : decode (kB M) pc = .ok (.ifCond .le o, 3)) (ht : (pc : Int) + o = (pt : Int)) (hp : pc + 3 = pc') (kt : x ≤ 0 → kJ E M r g' fc fs pt lv st g) (kf : ¬ x ≤ 0 → kJ E M r g' fc fs pc' lv st g) : kJ E M r g' fc fs pc lv (.int x :: st) g := by
  subst hp
  intro p l e s m args below meth c hF R hR PQ hEx H locs ls hl hW hS
  exact lv_if_le hF.1 hF.2.1 hd ht (fun z => kt z p l e s m args below meth c hF R hR PQ hEx H locs ls hl hW hS) (fun z => kf z p l e s m args below meth c hF R hR PQ hEx H locs ls hl hW hS)
theorem kJ_icmp_le (pc' pt : Nat) {x y : Int32} {o : Int} (hd : decode (kB M) pc = .ok (.if_icmp .le o, 3)) (ht : (pc : Int) + o = (pt : Int)) (hp : pc + 3 = pc') (kt : x ≤ y → kJ E M r g' fc fs pt lv st g) (kf : ¬ x ≤ y → kJ E M r g' fc fs pc' lv st g) : kJ E M r g' fc fs pc lv (.int y :: .int x :: st) g := by
  subst hp
  intro p l e s m args below meth c hF R hR PQ hEx H locs ls hl hW hS
  exact lv_icmp_le hF.1 hF.2.1 hd ht (fun z => kt z p l e s m args below meth c hF R hR PQ hEx H locs ls hl hW hS) (fun z => kf z p l e s m args below meth c hF R hR PQ hEx H locs ls hl hW hS)
theorem kJ_lookup (pt : Nat) {d off : Int} {ps : Array (Int × Int)} {len : Nat} {x : Int32} (hd : decode (kB M) pc = .ok (.lookupswitch d ps, len)) (hs : (ps.toList.zip (ps.toList.drop 1)).all (fun (a, next) => a.1 < next.1) = true) (ho : Op.lookupswitch.offset ps.toList d x.toInt = off) (ht : (pc : Int) + off = (pt : Int)) (k : kJ E M r g' fc fs pt lv st g) : kJ E M r g' fc fs pc lv (.int x :: st) g := by
  intro p l e s m args below meth c hF R hR PQ hEx H locs ls hl hW hS
  exact lv_lookup hF.1 hF.2.1 hd hs ho ht (k p l e s m args below meth c hF R hR PQ hEx H locs ls hl hW hS)
theorem kJ_tabOut (pt : Nat) {d lo hi : Int} {offs : Array Int} {len : Nat} {x : Int32} (hd : decode (kB M) pc = .ok (.tableswitch d lo hi offs, len)) (h : x.toInt < lo ∨ hi < x.toInt) (ht : (pc : Int) + d = (pt : Int)) (k : kJ E M r g' fc fs pt lv st g) : kJ E M r g' fc fs pc lv (.int x :: st) g := by
  intro p l e s m args below meth c hF R hR PQ hEx H locs ls hl hW hS
  exact lv_tableOut hF.1 hF.2.1 hd h ht (k p l e s m args below meth c hF R hR PQ hEx H locs ls hl hW hS)
theorem kJ_tabIn (pt : Nat) {d lo hi off : Int} {offs : Array Int} {len : Nat} {x : Int32} (hd : decode (kB M) pc = .ok (.tableswitch d lo hi offs, len)) (h1 : ¬ x.toInt < lo) (h2 : ¬ hi < x.toInt) (ho : offs[(x.toInt - lo).toNat]? = some off) (ht : (pc : Int) + off = (pt : Int)) (k : kJ E M r g' fc fs pt lv st g) : kJ E M r g' fc fs pc lv (.int x :: st) g := by
  intro p l e s m args below meth c hF R hR PQ hEx H locs ls hl hW hS
  exact lv_tableIn hF.1 hF.2.1 hd h1 h2 ho ht (k p l e s m args below meth c hF R hR PQ hEx H locs ls hl hW hS)
theorem kJ_ret (hd : decode (kB M) pc = .ok (.return_, 1)) (hr : kR M = none) (hfc : fc ≤ kMC M) (hfs : fs ≤ kMS M) : kJ E M none g fc fs pc lv [] g := by
  intro p l e s m args below meth c hF R hR PQ hEx H locs ls hl hW hS
  exact hEx H locs pc ls fc fs hW hS hfc hfs (Or.inl ⟨rfl, hr, hd⟩)
theorem kJ_iret {v : Int32} {ty : FieldType} (hd : decode (kB M) pc = .ok (.ireturn, 1)) (hr : kR M = some ty) (hn : narrow ty (.int v) = .int v) (hfc : fc ≤ kMC M) (hfs : fs ≤ kMS M) : kJ E M (some v) g fc fs pc lv [.int v] g := by
  intro p l e s m args below meth c hF R hR PQ hEx H locs ls hl hW hS
  exact hEx H locs pc ls fc fs hW hS hfc hfs (Or.inr ⟨v, ty, rfl, hr, hn, hd⟩)
end ROWS
end
section
/-! ROWS of the small machine that read or write the cells. -/
/-- a field of the class number ci, as the class 'own' links it -/
def kFl (own : String) (index ci k : Nat) (t : FieldType) (fin : Bool) : Prop := ∃ (C : String) (T : u_T) (N : Nat) (ty : Nat → FieldType), kCl[ci]? = some (C, T, N) ∧ ci < 10 ∧ (∀ w ∈ u_ws C T N, w ∈ kWG) ∧ k < N ∧ (T k).1 = C ∧ (T k).2.2.2 = fin ∧ ty k = t ∧ (∀ k, k < N → parseFieldDescriptor (T k).2.2.1 = some (ty k)) ∧ (∀ a, a < N → ∀ b, b < N → a ≠ b → (T a).2.1 ≠ (T b).2.1) ∧ (Cond.fieldLink own index C (T k).2.1 (T k).2.2.1 ∈ kWG ∨ ∃ host, Cond.fieldLinkNest own index C (T k).2.1 (T k).2.2.1 host ∈ kNest)
def kFit (t : FieldType) (v : Value) : Prop := ∀ E : kE, narrow t (kTv E v) = kTv E v ∧ fits t (kTv E v) = true
theorem kFit_int (x : Int32) : kFit .int (.int x) := fun _ => ⟨rfl, rfl⟩
theorem kFit_b0 : kFit .boolean (.int 0) := fun _ => ⟨rfl, rfl⟩
theorem kFit_b1 : kFit .boolean (.int 1) := fun _ => ⟨rfl, rfl⟩
theorem kFit_obj (C : String) (x : Nat) : kFit (.object C) (.ref x) := fun _ => ⟨rfl, rfl⟩
theorem kFit_arr (t : FieldType) (x : Nat) : kFit (.array t) (.ref x) := fun _ => ⟨rfl, rfl⟩
section ROWS
variable {E : kE} {M : kM} {r : Option Int32} {g' : List kC} {fc fs pc : Nat} {lv : kLv} {st : List Value} {g : List kC}
theorem kTc_o (E : kE) {ci : Nat} (h : ci < 10) (vs : List Value) : kTc E (ci, vs) = .inr (ci, vs.map (kTv E)) := by simp [kTc, h]
theorem kTc_i (E : kE) (vs : List Value) : kTc E (10, vs) = .inl (E.2.2.1 0, vs.length, .inl (fun j => kInt (vs.getD j .null))) := rfl
theorem kTc_c (E : kE) (vs : List Value) : kTc E (11, vs) = .inl (E.2.2.1 1, vs.length, .inl (fun j => kInt (vs.getD j .null))) := rfl
theorem kTc_z (E : kE) (vs : List Value) : kTc E (12, vs) = .inl (E.2.2.1 2, vs.length, .inl (fun j => kInt (vs.getD j .null))) := rfl
theorem kTc_q (E : kE) (vs : List Value) : kTc E (13, vs) = .inl (E.2.2.1 3, vs.length, .inr (.inr (.inr (.inr (fun j => kRef E (vs.getD j .null)))))) := rfl
theorem kTc_m (E : kE) (vs : List Value) : kTc E (14, vs) = .inl (E.2.2.1 4, vs.length, .inr (.inr (.inr (.inr (fun j => kRef E (vs.getD j .null)))))) := rfl
theorem kJ_getf (pc' : Nat) {ix ci k a : Nat} {t : FieldType} {fin : Bool} {vs : List Value} {v : Value} (hd : decode (kB M) pc = .ok (.getfield ix, 3)) (hf : kFl (kY M).cls ix ci k t fin) (he : g[a]? = some (ci, vs)) (hv : vs[k]? = some v) (hp : pc + 3 = pc') (kk : kJ E M r g' fc fs pc' lv (v :: st) g) : kJ E M r g' fc fs pc lv (.ref a :: st) g := by
  subst hp
  intro p l e s m args below meth c hF R hR PQ hEx H locs ls hl hW hS
  have k2 := kk p l e s m args below meth c hF R hR PQ hEx H locs ls hl hW hS
  obtain ⟨hx, hb, hml, hr, hlk, hown, hts, hnm, hE⟩ := hF
  obtain ⟨C, T, N, ty, hc, hci, hin, hk, hC, hfin, hty, htys, hnms, hlink⟩ := hf
  have he2 : (kWs E g)[a]? = some (E.1 + a, .inr (ci, vs.map (kTv E))) := by rw [kWs_at he, kTc_o E hci]
  have hv2 : (vs.map (kTv E))[k]? = some (kTv E v) := by simp [hv]
  rcases hlink with hl1 | ⟨host, hl1⟩
  · exact va_get (D := E.2.1) hx hb hts hin hown hE.1 hW.1 a he2 hc k hk (hts _ hl1) (fun x h => by rw [hC] at h; exact h) hv2 hd k2
  · exact va_getN (D := E.2.1) hx hb hts hin hown hE.1 hW.1 a he2 hc k hk (va_Nw.use rfl (hE.2.1 _ hl1)) (fun x h => by rw [hC] at h; exact h) hv2 hd k2
theorem kJ_putf (pc' : Nat) {ix ci k a : Nat} {t : FieldType} {vs : List Value} {v : Value} (hd : decode (kB M) pc = .ok (.putfield ix, 3)) (hf : kFl (kY M).cls ix ci k t false) (he : g[a]? = some (ci, vs)) (hv : kFit t v) (hlen : k < vs.length) (hp : pc + 3 = pc') (kk : kJ E M r g' fc fs pc' lv st (g.set a (ci, vs.set k v))) : kJ E M r g' fc fs pc lv (v :: .ref a :: st) g := by
  subst hp
  intro p l e s m args below meth c hF R hR PQ hEx H locs ls hl hW hS
  have k2 := kk p l e s m args below meth c hF R hR PQ hEx
  obtain ⟨hx, hb, hml, hr, hlk, hown, hts, hnm, hE⟩ := hF
  obtain ⟨C, T, N, ty, hc, hci, hin, hk, hC, hfin, hty, htys, hnms, hlink⟩ := hf
  have he2 : (kWs E g)[a]? = some (E.1 + a, .inr (ci, vs.map (kTv E))) := by rw [kWs_at he, kTc_o E hci]
  have hap := va_apart (own := (kY M).cls) hts hin ty htys hnms hE.1 hc
  obtain ⟨r1, h1, cell, q1, q2, q3, q4⟩ := hW.1 a _ he2
  have hr1 : r1 = (C, T, N) := Option.some.inj (h1.symm.trans hc)
  subst hr1
  obtain ⟨hS1, hfc, kC1, hkC, hkind⟩ := hE.1.1 ci _ hc
  obtain ⟨cf, kf, fi, f, hi, hsl⟩ := hS1 k hk
  have hlay := hts _ (hin _ (u_in_lay hk))
  unfold u_lay at hlay
  rw [if_neg (by rw [hfin]; decide)] at hlay
  have hst := (u_facts hfc hkC (u_lays hts hin hk) hi).1
  have hd2 : parseFieldDescriptor (T k).2.2.1 = some t := by rw [htys k hk, hty]
  have h6 := u_store hfc hkC hkind hlay hi hd2 (hv E).1 (hv E).2
  have hsame : s.fieldFound? C (T k).2.1 (T k).2.2.1 = some (cf, kf, fi, f) := by rw [hC] at hi; exact hi
  have go : ∀ H' : Heap, H'[E.1 + a]? = some (cell.setSlot f.slot (kTv E v)) → H'.size = H.size → (∀ q, q ≠ E.1 + a → H'[q]? = H[q]?) → W p l e R s m args below meth c H' (locs ++ [⟨E.1 + a, f.slot⟩]) fc fs PQ (F0 m (pc + 3) ls (st.map (kTv E))) := by
    intro H' e1 e2 e3
    refine k2 H' _ ls hl (hW.put he e2 e3 ?_) (hS.put e2 e3 (Nat.le_add_right _ _))
    rw [kTc_o E hci, List.map_set]
    rw [hsl] at e1
    exact ⟨_, hc, t_OB.to (V := updV (vp_V (vs.map (kTv E))) k (kTv E v)) ⟨_, e1, q2, q3, t_set q4 hap hk (kTv E v)⟩ (fun j _ => vp_updV_set (by simpa using hlen) (kTv E v) j)⟩
  rcases hlink with hl1 | ⟨host, hl1⟩
  · exact W.putK hx hb (f := f) ⟨hown, hts _ hl1, ⟨_, _, _, hsame⟩, hst⟩ (by rw [q2]; exact h6) q1 q3 (by rw [hsl]; exact k2_hasslot (q4 k hk)) rfl rfl hd go
  · exact va_WputK hx hb (f := f) hown (va_Nw.use rfl (hE.2.1 _ hl1)) hsame hst (by rw [q2]; exact h6) q1 q3 (by rw [hsl]; exact k2_hasslot (q4 k hk)) rfl rfl hd go
theorem kJ_putF (pc' : Nat) {ix ci k a : Nat} {t : FieldType} {vs : List Value} {v : Value} (hd : decode (kB M) pc = .ok (.putfield ix, 3)) (hf : kFl (kY M).cls ix ci k t true) (hC2 : ∀ C T N, kCl[ci]? = some (C, T, N) → C = (kY M).cls) (hnest : ∀ C T N host, kCl[ci]? = some (C, T, N) → Cond.fieldLinkNest (kY M).cls ix C (T k).2.1 (T k).2.2.1 host ∉ kNest) (hini : (kY M).name = "<init>") (he : g[a]? = some (ci, vs)) (hv : kFit t v) (hlen : k < vs.length) (hp : pc + 3 = pc') (kk : kJ E M r g' fc fs pc' lv st (g.set a (ci, vs.set k v))) : kJ E M r g' fc fs pc lv (v :: .ref a :: st) g := by
  subst hp
  intro p l e s m args below meth c hF R hR PQ hEx H locs ls hl hW hS
  have k2 := kk p l e s m args below meth c hF R hR PQ hEx
  obtain ⟨hx, hb, hml, hr, hlk, hown, hts, hnm, hE⟩ := hF
  obtain ⟨C, T, N, ty, hc, hci, hin, hk, hC, hfin, hty, htys, hnms, hlink⟩ := hf
  have he2 : (kWs E g)[a]? = some (E.1 + a, .inr (ci, vs.map (kTv E))) := by rw [kWs_at he, kTc_o E hci]
  have hap := va_apart (own := (kY M).cls) hts hin ty htys hnms hE.1 hc
  obtain ⟨r1, h1, cell, q1, q2, q3, q4⟩ := hW.1 a _ he2
  have hr1 : r1 = (C, T, N) := Option.some.inj (h1.symm.trans hc)
  subst hr1
  obtain ⟨hS1, hfc, kC1, hkC, hkind⟩ := hE.1.1 ci _ hc
  obtain ⟨cf, kf, fi, f, hi, hsl⟩ := hS1 k hk
  have hlay := hts _ (hin _ (u_in_lay hk))
  unfold u_lay at hlay
  rw [if_pos hfin] at hlay
  have hst := (u_facts hfc hkC (u_lays hts hin hk) hi).1
  have hd2 : parseFieldDescriptor (T k).2.2.1 = some t := by rw [htys k hk, hty]
  have hsame : s.fieldFound? C (T k).2.1 (T k).2.2.1 = some (cf, kf, fi, f) := by rw [hC] at hi; exact hi
  have hcf : m.cls = cf := by
    obtain ⟨_, _, c', _, _, _, -, -, hf', -, -, -, hown2, -⟩ := Cond.laysFinal_spec hlay
    have e1 : c' = cf := by have := hi.symm.trans hf'; simp at this; exact this.1.symm
    rw [hC, hC2 C T N hc] at hown2
    rw [← e1]; exact Option.some.inj (hown.symm.trans hown2)
  have h6 := u_fits hfc hkC hkind (Or.inr hlay) hi hd2 (hv E).1 (hv E).2
  have go : ∀ H' : Heap, H'[E.1 + a]? = some (cell.setSlot f.slot (kTv E v)) → H'.size = H.size → (∀ q, q ≠ E.1 + a → H'[q]? = H[q]?) → W p l e R s m args below meth c H' (locs ++ [⟨E.1 + a, f.slot⟩]) fc fs PQ (F0 m (pc + 3) ls (st.map (kTv E))) := by
    intro H' e1 e2 e3
    refine k2 H' _ ls hl (hW.put he e2 e3 ?_) (hS.put e2 e3 (Nat.le_add_right _ _))
    rw [kTc_o E hci, List.map_set]
    rw [hsl] at e1
    exact ⟨_, hc, t_OB.to (V := updV (vp_V (vs.map (kTv E))) k (kTv E v)) ⟨_, e1, q2, q3, t_set q4 hap hk (kTv E v)⟩ (fun j _ => vp_updV_set (by simpa using hlen) (kTv E v) j)⟩
  rcases hlink with hl1 | ⟨host, hl1⟩
  · exact W.putFinK hx hb hown (hts _ hl1) hsame hst hcf (hnm.trans hini) (by rw [q2]; exact h6) q1 q3 (by rw [hsl]; exact k2_hasslot (q4 k hk)) rfl rfl hd go
  · exact absurd hl1 (hnest C T N host hc)
theorem kGetD {vs : List Value} {j : Nat} {v : Value} (h : vs[j]? = some v) : vs.getD j .null = v := by simp [List.getD_eq_getElem?_getD, h]
theorem kJ_iald (pc' : Nat) {a : Nat} {vs : List Value} {i x : Int32} (hd : decode (kB M) pc = .ok (.iaload, 1)) (he : g[a]? = some (10, vs)) (hin : vp_in i vs.length) (hv : vs[i.toNatClampNeg]? = some (.int x)) (hp : pc + 1 = pc') (kk : kJ E M r g' fc fs pc' lv (.int x :: st) g) : kJ E M r g' fc fs pc lv (.int i :: .ref a :: st) g := by
  subst hp
  intro p l e s m args below meth c hF R hR PQ hEx H locs ls hl hW hS
  have k2 := kk p l e s m args below meth c hF R hR PQ hEx H locs ls hl hW hS
  obtain ⟨hx, hb, hml, hr, hlk, hown, hts, hnm, hE⟩ := hF
  refine va_iald (D := E.2.1) (n := vs.length) (f := fun j => kInt (vs.getD j .null)) hx hb hE.1 hW.1 a 0 ((kWs_at he).trans (by rw [kTc_i])) rfl hin hd ?_
  rw [kGetD hv]
  exact k2
theorem kJ_cald (pc' : Nat) {a : Nat} {vs : List Value} {i x : Int32} (hd : decode (kB M) pc = .ok (.caload, 1)) (he : g[a]? = some (11, vs)) (hin : vp_in i vs.length) (hv : vs[i.toNatClampNeg]? = some (.int x)) (hp : pc + 1 = pc') (kk : kJ E M r g' fc fs pc' lv (.int x :: st) g) : kJ E M r g' fc fs pc lv (.int i :: .ref a :: st) g := by
  subst hp
  intro p l e s m args below meth c hF R hR PQ hEx H locs ls hl hW hS
  have k2 := kk p l e s m args below meth c hF R hR PQ hEx H locs ls hl hW hS
  obtain ⟨hx, hb, hml, hr, hlk, hown, hts, hnm, hE⟩ := hF
  refine va_cald (D := E.2.1) (n := vs.length) (f := fun j => kInt (vs.getD j .null)) hx hb hE.1 hW.1 a 1 ((kWs_at he).trans (by rw [kTc_c])) rfl hin hd ?_
  rw [kGetD hv]
  exact k2
theorem kJ_zald (pc' : Nat) {a : Nat} {vs : List Value} {i x : Int32} (hd : decode (kB M) pc = .ok (.baload, 1)) (he : g[a]? = some (12, vs)) (hin : vp_in i vs.length) (hv : vs[i.toNatClampNeg]? = some (.int x)) (hp : pc + 1 = pc') (kk : kJ E M r g' fc fs pc' lv (.int x :: st) g) : kJ E M r g' fc fs pc lv (.int i :: .ref a :: st) g := by
  subst hp
  intro p l e s m args below meth c hF R hR PQ hEx H locs ls hl hW hS
  have k2 := kk p l e s m args below meth c hF R hR PQ hEx H locs ls hl hW hS
  obtain ⟨hx, hb, hml, hr, hlk, hown, hts, hnm, hE⟩ := hF
  refine va_zald (D := E.2.1) (n := vs.length) (f := fun j => kInt (vs.getD j .null)) hx hb hE.1 hW.1 a 2 ((kWs_at he).trans (by rw [kTc_z])) rfl hin hd ?_
  rw [kGetD hv]
  exact k2
theorem kJ_rald (pc' : Nat) {k : Nat} {i : Int32} (hd : decode (kB M) pc = .ok (.iaload, 1)) (hk : k < 3) (hin : vp_in i (E.2.2.2 k).2.1) (hp : pc + 1 = pc') (kk : kJ E M r g' fc fs pc' lv (.int ((E.2.2.2 k).2.2 i.toNatClampNeg) :: st) g) : kJ E M r g' fc fs pc lv (.int i :: .retAddr k :: st) g := by
  subst hp
  intro p l e s m args below meth c hF R hR PQ hEx H locs ls hl hW hS
  have k2 := kk p l e s m args below meth c hF R hR PQ hEx H locs ls hl hW hS
  obtain ⟨hx, hb, hml, hr, hlk, hown, hts, hnm, hE⟩ := hF
  obtain ⟨h1, h2⟩ := hE.2.2.2.1 k hk
  exact va_sld hx hb h1 (Nat.lt_of_lt_of_le h2 hE.2.2.2.2.2) (Nat.not_le.mpr h2) hS hin hd k2
theorem kJ_ralen (pc' : Nat) {k : Nat} (hd : decode (kB M) pc = .ok (.arraylength, 1)) (hk : k < 3) (hp : pc + 1 = pc') (kk : kJ E M r g' fc fs pc' lv (.int (Int32.ofNat (E.2.2.2 k).2.1) :: st) g) : kJ E M r g' fc fs pc lv (.retAddr k :: st) g := by
  subst hp
  intro p l e s m args below meth c hF R hR PQ hEx H locs ls hl hW hS
  have k2 := kk p l e s m args below meth c hF R hR PQ hEx H locs ls hl hW hS
  obtain ⟨hx, hb, hml, hr, hlk, hown, hts, hnm, hE⟩ := hF
  obtain ⟨h1, h2⟩ := hE.2.2.2.1 k hk
  exact va_slen hx hb h1 (Nat.lt_of_lt_of_le h2 hE.2.2.2.2.2) (Nat.not_le.mpr h2) hS hd k2
theorem kJ_alen (pc' : Nat) {a tg : Nat} {vs : List Value} (hd : decode (kB M) pc = .ok (.arraylength, 1)) (he : g[a]? = some (tg, vs)) (ht : tg = 10 ∨ tg = 11 ∨ tg = 14) (hp : pc + 1 = pc') (kk : kJ E M r g' fc fs pc' lv (.int (Int32.ofNat vs.length) :: st) g) : kJ E M r g' fc fs pc lv (.ref a :: st) g := by
  subst hp
  intro p l e s m args below meth c hF R hR PQ hEx H locs ls hl hW hS
  have k2 := kk p l e s m args below meth c hF R hR PQ hEx H locs ls hl hW hS
  obtain ⟨hx, hb, hml, hr, hlk, hown, hts, hnm, hE⟩ := hF
  rcases ht with rfl | rfl | rfl
  · exact va_alen (D := E.2.1) (x := (vs.length, .inl (fun j => kInt (vs.getD j .null)))) hx hb hE.1 hW.1 a 0 ((kWs_at he).trans (by rw [kTc_i])) rfl rfl hd k2
  · exact va_alen (D := E.2.1) (x := (vs.length, .inl (fun j => kInt (vs.getD j .null)))) hx hb hE.1 hW.1 a 1 ((kWs_at he).trans (by rw [kTc_c])) rfl rfl hd k2
  · exact va_alen (D := E.2.1) (x := (vs.length, .inr (.inr (.inr (.inr (fun j => kRef E (vs.getD j .null))))))) hx hb hE.1 hW.1 a 4 ((kWs_at he).trans (by rw [kTc_m])) rfl rfl hd k2
theorem kJ_aald (pc' : Nat) {a tg y : Nat} {vs : List Value} {i : Int32} (hd : decode (kB M) pc = .ok (.aaload, 1)) (he : g[a]? = some (tg, vs)) (ht : tg = 13 ∨ tg = 14) (hin : vp_in i vs.length) (hv : vs[i.toNatClampNeg]? = some (.ref y)) (hp : pc + 1 = pc') (kk : kJ E M r g' fc fs pc' lv (.ref y :: st) g) : kJ E M r g' fc fs pc lv (.int i :: .ref a :: st) g := by
  subst hp
  intro p l e s m args below meth c hF R hR PQ hEx H locs ls hl hW hS
  have k2 := kk p l e s m args below meth c hF R hR PQ hEx H locs ls hl hW hS
  obtain ⟨hx, hb, hml, hr, hlk, hown, hts, hnm, hE⟩ := hF
  rcases ht with rfl | rfl
  · refine va_aldq (D := E.2.1) (n := vs.length) (f := fun j => kRef E (vs.getD j .null)) hx hb hE.1 hW.1 a 3 ((kWs_at he).trans (by rw [kTc_q])) rfl hin hd ?_
    rw [kGetD hv]
    exact k2
  · refine va_aldq (D := E.2.1) (n := vs.length) (f := fun j => kRef E (vs.getD j .null)) hx hb hE.1 hW.1 a 4 ((kWs_at he).trans (by rw [kTc_m])) rfl hin hd ?_
    rw [kGetD hv]
    exact k2
theorem kSetI {vs : List Value} {i : Nat} (h : i < vs.length) (x : Int32) : (fun j => kInt ((vs.set i (.int x)).getD j .null)) = upd (fun j => kInt (vs.getD j .null)) i x := by
  funext j
  by_cases hj : j = i
  · subst hj
    simp [List.getD_eq_getElem?_getD, List.getElem?_set, h, upd, kInt]
  · simp [List.getD_eq_getElem?_getD, List.getElem?_set, upd, hj, Ne.symm hj]
theorem kIn_lt {i : Int32} {n : Nat} (h : vp_in i n) : i.toNatClampNeg < n := Nat.not_le.mp fun q => h (Or.inr q)
theorem kJ_iast (pc' : Nat) {a : Nat} {vs : List Value} {i x : Int32} (hd : decode (kB M) pc = .ok (.iastore, 1)) (he : g[a]? = some (10, vs)) (hin : vp_in i vs.length) (hp : pc + 1 = pc') (kk : kJ E M r g' fc fs pc' lv st (g.set a (10, vs.set i.toNatClampNeg (.int x)))) : kJ E M r g' fc fs pc lv (.int x :: .int i :: .ref a :: st) g := by
  subst hp
  intro p l e s m args below meth c hF R hR PQ hEx H locs ls hl hW hS
  have k2 := kk p l e s m args below meth c hF R hR PQ hEx
  obtain ⟨hx, hb, hml, hr, hlk, hown, hts, hnm, hE⟩ := hF
  have ha : (kWs E g)[a]? = some (E.1 + a, .inl (E.2.2.1 0, vs.length, .inl (fun j => kInt (vs.getD j .null)))) := (kWs_at he).trans (by rw [kTc_i])
  refine W.iast hx hb (hW.1 a _ ha) ((hE.1.2 0 _ rfl).1 vs.length (fun j => .int (kInt (vs.getD j .null)))) (fun q => by cases q) (by show ¬ (i < 0 ∨ (arrV _ _ _).slots.size ≤ _); rw [arrV_size]; exact hin) rfl rfl hd fun H1 e1 z oq => ?_
  refine k2 H1 _ ls hl (hW.put he z oq ?_) (hS.put z oq (Nat.le_add_right _ _))
  rw [kTc_i, List.length_set, kSetI (kIn_lt hin)]
  show H1[E.1 + a]? = some (vp_cell _ _)
  rw [e1, vp_cell_i, vp_cell_i, arrV_store]
  congr 2
  funext q
  by_cases hq : q = i.toNatClampNeg
  · subst hq
    simp [updV, upd]
  · simp [updV, upd, hq]
theorem kJ_cast (pc' : Nat) {a : Nat} {vs : List Value} {i x : Int32} (hd : decode (kB M) pc = .ok (.castore, 1)) (he : g[a]? = some (11, vs)) (hin : vp_in i vs.length) (hp : pc + 1 = pc') (kk : kJ E M r g' fc fs pc' lv st (g.set a (11, vs.set i.toNatClampNeg (.int (vp_nar .char x))))) : kJ E M r g' fc fs pc lv (.int x :: .int i :: .ref a :: st) g := by
  subst hp
  intro p l e s m args below meth c hF R hR PQ hEx H locs ls hl hW hS
  have k2 := kk p l e s m args below meth c hF R hR PQ hEx
  obtain ⟨hx, hb, hml, hr, hlk, hown, hts, hnm, hE⟩ := hF
  have ha : (kWs E g)[a]? = some (E.1 + a, .inl (E.2.2.1 1, vs.length, .inl (fun j => kInt (vs.getD j .null)))) := (kWs_at he).trans (by rw [kTc_c])
  refine W.cast hx hb (hW.1 a _ ha) ((hE.1.2 1 _ rfl).1 vs.length (fun j => .int (kInt (vs.getD j .null)))) (fun q => by cases q) (by show ¬ (i < 0 ∨ (arrV _ _ _).slots.size ≤ _); rw [arrV_size]; exact hin) rfl rfl hd fun H1 e1 z oq => ?_
  refine k2 H1 _ ls hl (hW.put he z oq ?_) (hS.put z oq (Nat.le_add_right _ _))
  rw [kTc_c, List.length_set, kSetI (kIn_lt hin)]
  show H1[E.1 + a]? = some (vp_cell _ _)
  rw [e1, vp_cell_i, vp_cell_i, arrV_store]
  congr 2
  funext q
  by_cases hq : q = i.toNatClampNeg
  · subst hq
    simp [updV, upd, vp_nar_char, narrow]
  · simp [updV, upd, hq]
theorem kJ_zast (pc' : Nat) {a : Nat} {vs : List Value} {i x : Int32} (hd : decode (kB M) pc = .ok (.bastore, 1)) (he : g[a]? = some (12, vs)) (hin : vp_in i vs.length) (hp : pc + 1 = pc') (kk : kJ E M r g' fc fs pc' lv st (g.set a (12, vs.set i.toNatClampNeg (.int (vp_nar .boolean x))))) : kJ E M r g' fc fs pc lv (.int x :: .int i :: .ref a :: st) g := by
  subst hp
  intro p l e s m args below meth c hF R hR PQ hEx H locs ls hl hW hS
  have k2 := kk p l e s m args below meth c hF R hR PQ hEx
  obtain ⟨hx, hb, hml, hr, hlk, hown, hts, hnm, hE⟩ := hF
  have ha : (kWs E g)[a]? = some (E.1 + a, .inl (E.2.2.1 2, vs.length, .inl (fun j => kInt (vs.getD j .null)))) := (kWs_at he).trans (by rw [kTc_z])
  refine W.zast hx hb (hW.1 a _ ha) ((hE.1.2 2 _ rfl).1 vs.length (fun j => .int (kInt (vs.getD j .null)))) (fun q => by cases q) (by show ¬ (i < 0 ∨ (arrV _ _ _).slots.size ≤ _); rw [arrV_size]; exact hin) rfl rfl hd fun H1 e1 z oq => ?_
  refine k2 H1 _ ls hl (hW.put he z oq ?_) (hS.put z oq (Nat.le_add_right _ _))
  rw [kTc_z, List.length_set, kSetI (kIn_lt hin)]
  show H1[E.1 + a]? = some (vp_cell _ _)
  rw [e1, vp_cell_i, vp_cell_i, arrV_store]
  congr 2
  funext q
  by_cases hq : q = i.toNatClampNeg
  · subst hq
    simp [updV, upd, vp_nar, narrow]
  · simp [updV, upd, hq]
theorem kSetR (E : kE) {vs : List Value} {i : Nat} (h : i < vs.length) (x : Nat) : (fun j => kRef E ((vs.set i (.ref x)).getD j .null)) = va_up (fun j => kRef E (vs.getD j .null)) i (some (E.1 + x)) := by
  funext j
  by_cases hj : j = i
  · subst hj
    simp [List.getD_eq_getElem?_getD, List.getElem?_set, h, va_up, kRef]
  · simp [List.getD_eq_getElem?_getD, List.getElem?_set, va_up, hj, Ne.symm hj]
theorem kJ_aast (pc' : Nat) {a ci y : Nat} {vs ws : List Value} {i : Int32} (hd : decode (kB M) pc = .ok (.aastore, 1)) (tg : Nat) (he : g[a]? = some (tg, vs)) (hy : g[y]? = some (ci, ws)) (ht : (tg = 13 ∧ ci = 3) ∨ (tg = 14 ∧ ci = 0)) (hin : vp_in i vs.length) (hp : pc + 1 = pc') (kk : kJ E M r g' fc fs pc' lv st (g.set a (tg, vs.set i.toNatClampNeg (.ref y)))) : kJ E M r g' fc fs pc lv (.ref y :: .int i :: .ref a :: st) g := by
  subst hp
  intro p l e s m args below meth c hF R hR PQ hEx H locs ls hl hW hS
  have k2 := kk p l e s m args below meth c hF R hR PQ hEx
  obtain ⟨hx, hb, hml, hr, hlk, hown, hts, hnm, hE⟩ := hF
  have hlt := kIn_lt hin
  have h0 : ¬ i < 0 := fun q => hin (Or.inl q)
  have key : ∀ (t0 : Nat) (rr : vw_C), kTc E (tg, vs) = .inl (E.2.2.1 t0, vs.length, .inr (.inr (.inr (.inr (fun j => kRef E (vs.getD j .null)))))) → kTc E (tg, vs.set i.toNatClampNeg (.ref y)) = .inl (E.2.2.1 t0, vs.length, .inr (.inr (.inr (.inr (fun j => kRef E ((vs.set i.toNatClampNeg (.ref y)).getD j .null)))))) → (kTys E)[t0]? = some (E.2.2.1 t0, .object rr.1) → kTc E (ci, ws) = .inr (ci, ws.map (kTv E)) → kCl[ci]? = some rr → W p l e R s m args below meth c H locs fc fs PQ (F0 m pc ls ((Value.ref y :: .int i :: .ref a :: st).map (kTv E))) := by
    intro t0 rr e10 e11 ht0 e12 hc
    have ha := (kWs_at (E := E) he).trans (by rw [e10])
    have hv := (kWs_at (E := E) hy).trans (by rw [e12])
    obtain ⟨r', hr', cellV, g1, g2, g3, -⟩ := hW.1 y _ hv
    have hcls := (hE.1.1 ci rr hc).2
    obtain ⟨kA1, comp, k1, k21, k3, -⟩ := (hE.1.2 t0 _ ht0).2
    have hcomp : comp = E.2.1.1 ci := Option.some.inj (k3.symm.trans hcls.1)
    subst hcomp
    obtain ⟨kC1, hkC, -⟩ := hcls.2
    refine W.aast hx hb (hW.1 a _ ha) (fun q h => by cases h) (fun h => by cases h) k1 k21 rfl hkC ⟨h0, by show _ < (arrV _ _ _).slots.size; rw [arrV_size]; exact hlt⟩ g1 (fun q h => by rw [g3] at h; cases h) (by rw [g2]; exact hkC) (by rw [g2]; exact va_assign hcls) rfl rfl hd fun H1 e1 z oq => ?_
    refine k2 H1 _ ls hl (hW.put he z oq ?_) (hS.put z oq (Nat.le_add_right _ _))
    rw [e11, kSetR E hlt]
    show H1[E.1 + a]? = some (vp_cell _ _)
    rw [e1]
    rw [vp_cell_q, vp_cell_q, arrV_store]
    congr 2
    funext q
    by_cases hq : q = i.toNatClampNeg
    · subst hq
      simp [updV, va_up, va_rf]
    · simp [updV, va_up, hq]
  rcases ht with ⟨rfl, rfl⟩ | ⟨rfl, rfl⟩
  · exact key 3 (RX3, TX3, 10) (kTc_q E vs) ((kTc_q E _).trans (by rw [List.length_set])) rfl (kTc_o E (by decide) ws) rfl
  · exact key 4 (RX0, TX0, 11) (kTc_m E vs) ((kTc_m E _).trans (by rw [List.length_set])) rfl (kTc_o E (by decide) ws) rfl
theorem kJ_gets0 (pc' : Nat) {ix : Nat} (hd : decode (kB M) pc = .ok (.getstatic ix, 3)) {host : String} (hl1 : Cond.fieldLinkNest (kY M).cls ix RX6 "FIRST_VALUES" "[I" host ∈ kNest) (hp : pc + 3 = pc') (kk : kJ E M r g' fc fs pc' lv (.retAddr 0 :: st) g) : kJ E M r g' fc fs pc lv st g := by
  subst hp
  intro p l e s m args below meth c hF R hR PQ hEx H locs ls hl hW hS
  have k2 := kk p l e s m args below meth c hF R hR PQ hEx H locs ls hl hW hS
  obtain ⟨hx, hb, hml, hr, hlk, hown, hts, hnm, hE⟩ := hF
  exact va_getsN hx hb hE.2.2.2.2.1.1 hS hown (va_Nw.use rfl (hE.2.1 _ hl1)) (fun _ h => h) hd k2
theorem kJ_gets1 (pc' : Nat) {ix : Nat} (hd : decode (kB M) pc = .ok (.getstatic ix, 3)) {host : String} (hl1 : Cond.fieldLinkNest (kY M).cls ix RX6 "HIGHEST_VALUES" "[I" host ∈ kNest) (hp : pc + 3 = pc') (kk : kJ E M r g' fc fs pc' lv (.retAddr 1 :: st) g) : kJ E M r g' fc fs pc lv st g := by
  subst hp
  intro p l e s m args below meth c hF R hR PQ hEx H locs ls hl hW hS
  have k2 := kk p l e s m args below meth c hF R hR PQ hEx H locs ls hl hW hS
  obtain ⟨hx, hb, hml, hr, hlk, hown, hts, hnm, hE⟩ := hF
  exact va_getsN hx hb hE.2.2.2.2.1.2 hS hown (va_Nw.use rfl (hE.2.1 _ hl1)) (fun _ h => h) hd k2
end ROWS
end
section
/-! ROWS of the small machine that make cells, copy arrays, or call. -/
def kNew (own : String) (ix ci N : Nat) (vs : List Value) : Prop := ∃ (C : String) (T : u_T) (ty : Nat → FieldType), kCl[ci]? = some (C, T, N) ∧ ci < 10 ∧ (∀ w ∈ u_ws C T N, w ∈ kWG) ∧ (∀ k, k < N → parseFieldDescriptor (T k).2.2.1 = some (ty k)) ∧ Cond.classLink own ix C ∈ kWG ∧ Cond.instantiable C N ∈ kWG ∧ Cond.initialized C ∈ kWG ∧ ∀ E : kE, ∀ j, j < N → defaultValue (ty j) = vp_V (vs.map (kTv E)) j
def kCpF (f h : Nat → Int32) (len sp dp n : Nat) : List Value := (List.range len).map (fun j => .int (va_cpy f h sp dp n j))
def kFn (vs : List Value) : Nat → Int32 := fun j => kInt (vs.getD j .null)
theorem kFn_big {vs : List Value} {j : Nat} (h : vs.length ≤ j) : kFn vs j = 0 := by simp [kFn, List.getD_eq_getElem?_getD, h, kInt]
theorem kCpF_fn {f h : Nat → Int32} {len sp dp n : Nat} (h5 : dp + n ≤ len) (hb : ∀ j, len ≤ j → h j = 0) : kFn (kCpF f h len sp dp n) = va_cpy f h sp dp n := by
  funext j
  by_cases hj : j < len
  · simp [kFn, kCpF, List.getD_eq_getElem?_getD, hj, kInt]
  · have h1 : kFn (kCpF f h len sp dp n) j = 0 := kFn_big (by simp [kCpF]; omega)
    have h2 : ¬ (dp ≤ j ∧ j < dp + n) := by omega
    rw [h1]
    simp only [va_cpy, if_neg h2]
    exact (hb j (by omega)).symm
def kCall (own : String) (ix : Nat) (N : kM) (n : Nat) : Prop := Cond.code (kY N) (kB N) (kL N) (kR N) ∈ kWG ∧ Cond.initialized (kY N).cls ∈ kWG ∧ (kY N).cls ≠ "java/lang/invoke/MethodHandle" ∧ (kY N).cls ≠ "java/lang/invoke/VarHandle" ∧ (parseMethodDescriptor (kY N).desc).map (fun d => d.parameters.length) = some n ∧ (Cond.methodLink own ix (kY N) ∈ kWG ∨ ∃ host, Cond.methodLinkNest own ix (kY N) host ∈ kNest)
def kRoom (M N : kM) : Prop := N.2.2.2.2.1 + 1 ≤ M.2.2.2.2.1 ∧ 8 + (kL N + 11) + N.2.2.2.2.2.2.2 ≤ M.2.2.2.2.2.2.2
theorem kWG_good {w : Cond} (h : w ∈ kWG) : goodWord w = true := (List.mem_filter.mp h).2
theorem kws_good {N : kM} (h : Cond.code (kY N) (kB N) (kL N) (kR N) ∈ kWG) : GoodIn kWG (kws N) := by
  intro w hw
  rcases List.mem_cons.mp hw with rfl | hw
  · exact ⟨h, good_of_word (kWG_good h)⟩
  · exact ⟨hw, good_of_word (kWG_good hw)⟩
section GO
variable {p : Program} {l : Launch} {e : Env} {R : Room} {s : State} {m : MethodId} {args : Array Value} {below : List Frame} {meth : Method} {c : Code} {H : Heap} {locs : List Loc} {cells slots : Nat} {Q : State → Prop}
variable {pc : Nat} {ls : Array Slot} {rest st0 : List Value} {a : Array Value} {mc ms : Nat}
theorem kGo {E : kE} {r1 : Option Int32} {g1 : List kC} (hr : va_Run p l e R s m args below meth c H locs cells slots mc ms (F0 m pc ls st0) rest (kPost E r1 g1 a) (kA E)) (hS : va_S (kA E) s.heap H locs) (kk : ∀ (H1 : Heap) (locs1 : List Loc), kW E g1 H1 → va_S (kA E) s.heap H1 locs1 → W p l e R s m args below meth c H1 locs1 (cells + mc) (slots + ms) Q (F0 m (pc + 3) ls ((r1.map Value.int).toList ++ rest))) : W p l e R s m args below meth c H locs cells slots Q (F0 m pc ls st0) := by
  intro T hT X
  obtain ⟨v, st₀, t, T', L, h0, X', hL, e1, e2, ⟨⟨hv, hW⟩, hz, hk⟩, st⟩ := hr T hT X
  cases hv
  rw [h0] at hz hk
  obtain ⟨t2, a1, b1⟩ := kk T'.heap (locs ++ L) (by rw [e1]; exact hW)
    ⟨Nat.le_trans hS.1 (by rw [e1]; exact hz), fun q h1 h2 => by rw [e1, hk q (Nat.lt_of_lt_of_le h1 hS.1) h2]; exact hS.2.1 q h1 h2, fun q hq => by
      rcases List.mem_append.mp hq with h | h
      · exact hS.2.2 q h
      · exact hL q h⟩ T' rfl X'
  exact ⟨t2, st t2 a1, b1⟩
end GO
section ROWS
variable {E : kE} {M : kM} {r : Option Int32} {g' : List kC} {fc fs pc : Nat} {lv : kLv} {st : List Value} {g : List kC}
theorem kJ_new (pc' : Nat) {ix ci N : Nat} {vs : List Value} (hd : decode (kB M) pc = .ok (.new ix, 3)) (hn : kNew (kY M).cls ix ci N vs) (hfc : fc + 1 ≤ kMC M) (hfs : fs + N ≤ kMS M) (hp : pc + 3 = pc') (kk : kJ E M r g' (fc + 1) (fs + N) pc' lv (.ref g.length :: st) (g ++ [(ci, vs)])) : kJ E M r g' fc fs pc lv st g := by
  subst hp
  intro p l e s m args below meth c hF R hR PQ hEx H locs ls hl hW hS
  have k2 := kk p l e s m args below meth c hF R hR PQ hEx
  obtain ⟨hx, hb, hml, hr, hlk, hown, hts, hnm, hE⟩ := hF
  obtain ⟨C, T, ty, hc, hci, hin, htys, w1, w2, w3, hdf⟩ := hn
  subst hR
  have hKn := hE.1.1 ci _ hc
  refine W.newcK hx hb hown (hts _ w1) (hts _ w2) (hts _ w3) rfl hd hfc hfs hKn.2.1 hW.2 fun H1 kC1 hkC e1 z1 o1 => ?_
  refine k2 H1 _ ls hl (hW.push (by rw [z1, hW.2]) (fun q hq => o1 q (by rw [← hW.2]; exact hq)) ?_) ⟨Nat.le_trans hS.1 (by rw [z1, hW.2]; omega), fun x h1 h2 => (o1 x (by rw [← hW.2]; exact Nat.lt_of_lt_of_le h1 hS.1)).trans (hS.2.1 x h1 h2), hS.2.2⟩
  rw [kTc_o E hci, hW.2]
  exact ⟨_, hc, (u_born ty hts hin hKn hkC e1 htys).to (hdf E)⟩
theorem kRep (n : Nat) : (fun j => kInt ((List.replicate n (Value.int 0)).getD j .null)) = fun _ => 0 := by
  funext j
  by_cases h : j < n <;> simp [List.getD_eq_getElem?_getD, List.getElem?_replicate, h, kInt]
theorem kRepR (E : kE) (n : Nat) : (fun j => kRef E ((List.replicate n Value.null).getD j .null)) = fun _ => none := by
  funext j
  by_cases h : j < n <;> simp [List.getD_eq_getElem?_getD, List.getElem?_replicate, h, kRef]
theorem kJ_newa (pc' tg N : Nat) {at_ : ArrayType} {n : Int32} (hd : decode (kB M) pc = .ok (.newarray at_, 2)) (ht : (tg = 10 ∧ at_ = .int) ∨ (tg = 11 ∧ at_ = .char) ∨ (tg = 12 ∧ at_ = .boolean)) (hw : Cond.arrayClass (newarray.typeOf at_) ∈ kWG) (hn : ¬ n < 0) (hN : n.toNatClampNeg = N) (hb8 : N * 4 ≤ 536870912) (hfc : fc + 1 ≤ kMC M) (hfs : fs + N ≤ kMS M) (hp : pc + 2 = pc') (kk : kJ E M r g' (fc + 1) (fs + N) pc' lv (.ref g.length :: st) (g ++ [(tg, List.replicate N (.int 0))])) : kJ E M r g' fc fs pc lv (.int n :: st) g := by
  subst hp
  intro p l e s m args below meth c hF R hR PQ hEx H locs ls hl hW hS
  have k2 := kk p l e s m args below meth c hF R hR PQ hEx
  obtain ⟨hx, hb, hml, hr, hlk, hown, hts, hnm, hE⟩ := hF
  subst hR
  refine va_newaK hx hb (hts _ hw) rfl hd rfl hn hN ?_ hfc hfs hW.2 fun H1 cA1 e1 z1 o1 hAr hNm => ?_
  · rcases ht with ⟨-, rfl⟩ | ⟨-, rfl⟩ | ⟨-, rfl⟩ <;> (have h9 : ∀ z : Nat, N * z ≤ N * 4 ∨ 4 < z := fun z => by rcases Nat.lt_or_ge 4 z with h | h; exact Or.inr h; exact Or.inl (Nat.mul_le_mul_left N h)) <;> exact (h9 _).elim (fun h => Nat.le_trans h hb8) (fun h => absurd h (by decide))
  · refine k2 H1 _ ls hl (hW.push (by rw [z1, hW.2]) (fun q hq => o1 q (by rw [← hW.2]; exact hq)) ?_) ⟨Nat.le_trans hS.1 (by rw [z1, hW.2]; omega), fun x h1 h2 => (o1 x (by rw [← hW.2]; exact Nat.lt_of_lt_of_le h1 hS.1)).trans (hS.2.1 x h1 h2), hS.2.2⟩
    rcases ht with ⟨rfl, rfl⟩ | ⟨rfl, rfl⟩ | ⟨rfl, rfl⟩
    · have hA : cA1 = E.2.2.1 0 := Option.some.inj (hNm.symm.trans (hE.1.2 0 _ rfl).2)
      rw [kTc_i, kRep, List.length_replicate, hW.2, ← hA]
      exact e1
    · have hA : cA1 = E.2.2.1 1 := Option.some.inj (hNm.symm.trans (hE.1.2 1 _ rfl).2)
      rw [kTc_c, kRep, List.length_replicate, hW.2, ← hA]
      exact e1
    · have hA : cA1 = E.2.2.1 2 := Option.some.inj (hNm.symm.trans (hE.1.2 2 _ rfl).2)
      rw [kTc_z, kRep, List.length_replicate, hW.2, ← hA]
      exact e1
theorem kJ_newq (pc' tg N ci : Nat) {ix : Nat} {n : Int32} {C : String} (hd : decode (kB M) pc = .ok (.anewarray ix, 3)) (ht : (tg = 13 ∧ C = RX3) ∨ (tg = 14 ∧ C = RX0)) (hw : Cond.classLink (kY M).cls ix C ∈ kWG) (hn : ¬ n < 0) (hN : n.toNatClampNeg = N) (hb8 : N * 4 ≤ 536870912) (hfc : fc + 1 ≤ kMC M) (hfs : fs + N ≤ kMS M) (hp : pc + 3 = pc') (kk : kJ E M r g' (fc + 1) (fs + N) pc' lv (.ref g.length :: st) (g ++ [(tg, List.replicate N .null)])) : kJ E M r g' fc fs pc lv (.int n :: st) g := by
  subst hp
  intro p l e s m args below meth c hF R hR PQ hEx H locs ls hl hW hS
  have k2 := kk p l e s m args below meth c hF R hR PQ hEx
  obtain ⟨hx, hb, hml, hr, hlk, hown, hts, hnm, hE⟩ := hF
  subst hR
  subst hN
  have hAO : va_AO C s := by
    rcases ht with ⟨-, rfl⟩ | ⟨-, rfl⟩
    · exact hE.2.2.1.1
    · exact hE.2.2.1.2
  refine W.anew hx hb hown (hts _ hw) (va_AO.use hAO) rfl hd rfl hn hb8 hfc hfs fun cA1 kA1 comp f1 f2 f3 f4 => ?_
  generalize hH1 : H.push ({ cls := cA1, slots := Array.replicate n.toNatClampNeg .null, vm := .none } : Cell) = H1
  have z1 : H1.size = H.size + 1 := by rw [← hH1, Array.size_push]
  have e1 : H1[H.size]? = some (arrV cA1 n.toNatClampNeg (fun _ => .null)) := by rw [← hH1, Array.getElem?_push_size, ← arrV_new]
  have o1 : ∀ q : Nat, q < H.size → H1[q]? = H[q]? := fun q hq => by rw [← hH1, Array.getElem?_push, if_neg (Nat.ne_of_lt hq)]
  have k3 := k2 H1 locs ls hl
  rw [List.map_cons, show kTv E (.ref g.length) = .ref H.size from by rw [hW.2]; rfl] at k3
  refine k3 (hW.push z1 o1 ?_) ⟨Nat.le_trans hS.1 (by rw [z1]; omega), fun x h1 h2 => (o1 x (Nat.lt_of_lt_of_le h1 hS.1)).trans (hS.2.1 x h1 h2), hS.2.2⟩
  rcases ht with ⟨rfl, rfl⟩ | ⟨rfl, rfl⟩
  · obtain ⟨-, kA2, comp2, j1, j2, j3, j4⟩ := hE.1.2 3 _ rfl
    have hA : cA1 = E.2.2.1 3 := Option.some.inj (f1.symm.trans j4)
    rw [kTc_q, kRepR, List.length_replicate, ← hA]
    exact e1
  · obtain ⟨-, kA2, comp2, j1, j2, j3, j4⟩ := hE.1.2 4 _ rfl
    have hA : cA1 = E.2.2.1 4 := Option.some.inj (f1.symm.trans j4)
    rw [kTc_m, kRepR, List.length_replicate, ← hA]
    exact e1
def kCpW (own : String) (ix : Nat) : Prop := Cond.methodLink own ix arraycopyName ∈ kWG ∧ Cond.native arraycopyName ∈ kWG ∧ Cond.static arraycopyName ∈ kWG ∧ Cond.initialized "java/lang/System" ∈ kWG
theorem kNn (z : Int32) (hz : ¬ z < 0) : z.toInt = (z.toNatClampNeg : Int) := by
  have hz0 : (0 : Int) ≤ z.toInt := by
    have := Int32.not_lt.mp hz
    simpa using Int32.le_iff_toInt_le.mp this
  show z.toInt = ((z.toInt.toNat : Nat) : Int)
  omega
theorem kJ_copy (pc' : Nat) {ix a0 a : Nat} {vs0 vs : List Value} {sp dp n : Int32} (hd : decode (kB M) pc = .ok (.invokestatic ix, 3)) (hw : kCpW (kY M).cls ix) (he0 : g[a0]? = some (10, vs0)) (he : g[a]? = some (10, vs)) (h1 : ¬ sp < 0) (h2 : ¬ dp < 0) (h3 : ¬ n < 0) (h4 : sp.toNatClampNeg + n.toNatClampNeg ≤ vs0.length) (h5 : dp.toNatClampNeg + n.toNatClampNeg ≤ vs.length) (hrm : 1 ≤ (krm M).frames ∧ (st.map fun v => v.category).sum + (nativeFrameWords "java/lang/System" "arraycopy" 5 + 11) ≤ (krm M).locals) (hp : pc + 3 = pc') (kk : kJ E M r g' fc fs pc' lv st (g.set a (10, kCpF (kFn vs0) (kFn vs) vs.length sp.toNatClampNeg dp.toNatClampNeg n.toNatClampNeg))) : kJ E M r g' fc fs pc lv (.int n :: .int dp :: .ref a :: .int sp :: .ref a0 :: st) g := by
  subst hp
  intro p l e s m args below meth c hF R hR PQ hEx H locs ls hl hW hS
  have k2 := kk p l e s m args below meth c hF R hR PQ hEx
  obtain ⟨hx, hb, hml, hr, hlk, hown, hts, hnm, hE⟩ := hF
  subst hR
  intro T hT X
  have hc0 : H[E.1 + a0]? = some (vp_cell (E.2.2.1 0) (vs0.length, .inl (kFn vs0))) := hW.1 a0 (E.1 + a0, .inl (E.2.2.1 0, vs0.length, .inl (kFn vs0))) ((kWs_at he0).trans rfl)
  have hc1 : H[E.1 + a]? = some (vp_cell (E.2.2.1 0) (vs.length, .inl (kFn vs))) := hW.1 a (E.1 + a, .inl (E.2.2.1 0, vs.length, .inl (kFn vs))) ((kWs_at he).trans rfl)
  obtain ⟨-, k0, hk0, cm0, hkk0⟩ := (hE.1.2 0 _ rfl).1 vs0.length (fun j => .int (kFn vs0 j))
  obtain ⟨-, k1, hk1, cm1, hkk1⟩ := (hE.1.2 0 _ rfl).1 vs.length (fun j => .int (kFn vs j))
  obtain ⟨vm', X', step⟩ := X.arraycopy hx hown (hts _ hw.1) (hts _ hw.2.1) (hts _ hw.2.2.1) (hts _ hw.2.2.2) (src := E.1 + a0) (dst := E.1 + a) (cs := vp_cell (E.2.2.1 0) (vs0.length, .inl (kFn vs0))) (cd := vp_cell (E.2.2.1 0) (vs.length, .inl (kFn vs))) (srcPos := sp) (destPos := dp) (n := n) (by rw [hT]; exact hc0) (by rw [hT]; exact hc1)
    (fun _ h => by cases h) (fun _ h => by cases h) (fun h => by cases h) (fun h => by cases h) hk0 hk1 hkk0 hkk1 (by simp [refKind]) h1 h2 h3
    (by rw [kNn sp h1, kNn n h3]; show ¬ _ > ((arrV (E.2.2.1 0) vs0.length (fun j => .int (kFn vs0 j))).slots.size : Int); rw [arrV_size]; omega)
    (by rw [kNn dp h2, kNn n h3]; show ¬ _ > ((arrV (E.2.2.1 0) vs.length (fun j => .int (kFn vs j))).slots.size : Int); rw [arrV_size]; omega)
    (fun vm₁ _ i hi => by
      have e : (vp_cell (E.2.2.1 0) (vs0.length, .inl (kFn vs0))).slots.getD (sp.toNatClampNeg + i) .null = .int (kFn vs0 (sp.toNatClampNeg + i)) := by
        show (arrV (E.2.2.1 0) vs0.length (fun j => .int (kFn vs0 j))).slots.getD _ _ = _
        rw [Array.getD_eq_getD_getElem?, arrV_read _ _ (by omega)]
        rfl
      refine ⟨?_, ?_⟩
      · rw [e]; rfl
      · rw [e]
        exact trivial)
    (g := F0 m pc ls ((Value.int n :: .int dp :: .ref a :: .int sp :: .ref a0 :: st).map (kTv E))) rfl (by rw [hml, hl.1]) (rest := st.map (kTv E)) rfl (by rw [hb]; exact hd) hrm.1 (by
      show 2 * 0 + _ + _ ≤ _
      have e9 : ((st.map (kTv E)).map fun v => v.category) = st.map fun v => v.category := by simp [kTv_cat, Function.comp_def]
      rw [e9]; have := hrm.2; omega)
  have e1 : copied (vp_cell (E.2.2.1 0) (vs0.length, .inl (kFn vs0))) (vp_cell (E.2.2.1 0) (vs.length, .inl (kFn vs))) sp dp n = vp_cell (E.2.2.1 0) (vs.length, .inl (va_cpy (kFn vs0) (kFn vs) sp.toNatClampNeg dp.toNatClampNeg n.toNatClampNeg)) := va_copied (fun z => .int z) _ _ (kFn vs0) (kFn vs) h4
  rw [e1] at X' step
  have hlt : E.1 + a < H.size := (Array.getElem?_eq_some_iff.mp hc1).1
  generalize hcn : vp_cell (E.2.2.1 0) (vs.length, .inl (va_cpy (kFn vs0) (kFn vs) sp.toNatClampNeg dp.toNatClampNeg n.toNatClampNeg)) = cn at X' step
  have hheap : ((T.setVm vm').setCell (E.1 + a) cn).heap = H.setIfInBounds (E.1 + a) cn := by rw [← hT]; rfl
  have oq : ∀ q : Nat, q ≠ E.1 + a → (H.setIfInBounds (E.1 + a) cn)[q]? = H[q]? := fun q hq => by simp [Array.getElem?_setIfInBounds, Ne.symm hq]
  have hzz : (H.setIfInBounds (E.1 + a) cn).size = H.size := by simp
  obtain ⟨t, a1, b1⟩ := k2 _ _ ls hl (hW.put (c := (10, kCpF (kFn vs0) (kFn vs) vs.length sp.toNatClampNeg dp.toNatClampNeg n.toNatClampNeg)) he hzz oq (by
      rw [kTc_i]
      show (H.setIfInBounds (E.1 + a) cn)[E.1 + a]? = some (vp_cell _ (_, .inl (kFn (kCpF _ _ _ _ _ _))))
      rw [kCpF_fn h5 (fun j hj => kFn_big hj), show (kCpF (kFn vs0) (kFn vs) vs.length sp.toNatClampNeg dp.toNatClampNeg n.toNatClampNeg).length = vs.length from by simp [kCpF], hcn]
      simp [Array.getElem?_setIfInBounds, hlt]))
    ⟨by simp; exact hS.1, fun q g1 g2 => by
      rw [oq q (fun e => g2 (by rw [e]; exact Nat.le_add_right _ _))]
      exact hS.2.1 q g1 g2, fun q hq => by
      rcases List.mem_append.mp hq with h | h
      · exact hS.2.2 q h
      · obtain ⟨z, -, hz⟩ := List.mem_map.mp h
        rw [← hz]
        exact Nat.le_add_right _ _⟩ _ hheap X'
  exact ⟨t, step t a1, b1⟩
theorem kJ_rcopy (pc' : Nat) {ix k a : Nat} {vs : List Value} {sp dp n : Int32} (hd : decode (kB M) pc = .ok (.invokestatic ix, 3)) (hw : kCpW (kY M).cls ix) (hk : k < 3) (he : g[a]? = some (10, vs)) (h1 : ¬ sp < 0) (h2 : ¬ dp < 0) (h3 : ¬ n < 0) (h4 : sp.toNatClampNeg + n.toNatClampNeg ≤ (E.2.2.2 k).2.1) (h5 : dp.toNatClampNeg + n.toNatClampNeg ≤ vs.length) (hrm : 1 ≤ (krm M).frames ∧ (st.map fun v => v.category).sum + (nativeFrameWords "java/lang/System" "arraycopy" 5 + 11) ≤ (krm M).locals) (hp : pc + 3 = pc') (kk : kJ E M r g' fc fs pc' lv st (g.set a (10, kCpF (E.2.2.2 k).2.2 (kFn vs) vs.length sp.toNatClampNeg dp.toNatClampNeg n.toNatClampNeg))) : kJ E M r g' fc fs pc lv (.int n :: .int dp :: .ref a :: .int sp :: .retAddr k :: st) g := by
  subst hp
  intro p l e s m args below meth c hF R hR PQ hEx H locs ls hl hW hS
  have k2 := kk p l e s m args below meth c hF R hR PQ hEx
  obtain ⟨hx, hb, hml, hr, hlk, hown, hts, hnm, hE⟩ := hF
  subst hR
  obtain ⟨hX, hXl⟩ := hE.2.2.2.1 k hk
  have hbl : (E.2.2.2 k).1 < s.heap.size := Nat.lt_of_lt_of_le hXl hE.2.2.2.2.2
  have hbA : ¬ kA E (E.2.2.2 k).1 := Nat.not_le.mpr hXl
  intro T hT X
  obtain ⟨scr, hs1, hs2, hs3, hs4, hs5⟩ := hX
  have hc0 : H[(E.2.2.2 k).1]? = some scr := by rw [hS.2.1 _ hbl hbA]; exact hs1
  have hc1 : H[E.1 + a]? = some (vp_cell (E.2.2.1 0) (vs.length, .inl (kFn vs))) := hW.1 a (E.1 + a, .inl (E.2.2.1 0, vs.length, .inl (kFn vs))) ((kWs_at he).trans rfl)
  obtain ⟨hob, k0, hk0, cm0, hkk0⟩ := hs2
  obtain ⟨-, k1, hk1, cm1, hkk1⟩ := (hE.1.2 0 _ rfl).1 vs.length (fun j => .int (kFn vs j))
  obtain ⟨vm', X', step⟩ := X.arraycopy hx hown (hts _ hw.1) (hts _ hw.2.1) (hts _ hw.2.2.1) (hts _ hw.2.2.2) (src := (E.2.2.2 k).1) (dst := E.1 + a) (cs := scr) (cd := vp_cell (E.2.2.1 0) (vs.length, .inl (kFn vs))) (srcPos := sp) (destPos := dp) (n := n) (by rw [hT]; exact hc0) (by rw [hT]; exact hc1)
    hob (fun _ h => by cases h) hs3 (fun h => by cases h) hk0 hk1 hkk0 hkk1 (by simp [refKind]) h1 h2 h3
    (by rw [kNn sp h1, kNn n h3, hs4]; omega)
    (by rw [kNn dp h2, kNn n h3]; show ¬ _ > ((arrV (E.2.2.1 0) vs.length (fun j => .int (kFn vs j))).slots.size : Int); rw [arrV_size]; omega)
    (fun vm₁ _ i hi => by
      have e : scr.slots.getD (sp.toNatClampNeg + i) .null = .int ((E.2.2.2 k).2.2 (sp.toNatClampNeg + i)) := by
        rw [Array.getD_eq_getD_getElem?, hs5 _ (by omega)]
        rfl
      refine ⟨?_, ?_⟩
      · rw [e]; rfl
      · rw [e]
        exact trivial)
    (g := F0 m pc ls ((Value.int n :: .int dp :: .ref a :: .int sp :: .retAddr k :: st).map (kTv E))) rfl (by rw [hml, hl.1]) (rest := st.map (kTv E)) rfl (by rw [hb]; exact hd) hrm.1 (by
      show 2 * 0 + _ + _ ≤ _
      have e9 : ((st.map (kTv E)).map fun v => v.category) = st.map fun v => v.category := by simp [kTv_cat, Function.comp_def]
      rw [e9]; have := hrm.2; omega)
  have e1 : copied scr (vp_cell (E.2.2.1 0) (vs.length, .inl (kFn vs))) sp dp n = vp_cell (E.2.2.1 0) (vs.length, .inl (va_cpy (E.2.2.2 k).2.2 (kFn vs) sp.toNatClampNeg dp.toNatClampNeg n.toNatClampNeg)) := va_copiedX (fun z => .int z) scr _ (E.2.2.2 k).2.2 (kFn vs) hs5 h4
  rw [e1] at X' step
  have hlt : E.1 + a < H.size := (Array.getElem?_eq_some_iff.mp hc1).1
  generalize hcn : vp_cell (E.2.2.1 0) (vs.length, .inl (va_cpy (E.2.2.2 k).2.2 (kFn vs) sp.toNatClampNeg dp.toNatClampNeg n.toNatClampNeg)) = cn at X' step
  have hheap : ((T.setVm vm').setCell (E.1 + a) cn).heap = H.setIfInBounds (E.1 + a) cn := by rw [← hT]; rfl
  have oq : ∀ q : Nat, q ≠ E.1 + a → (H.setIfInBounds (E.1 + a) cn)[q]? = H[q]? := fun q hq => by simp [Array.getElem?_setIfInBounds, Ne.symm hq]
  have hzz : (H.setIfInBounds (E.1 + a) cn).size = H.size := by simp
  obtain ⟨t, a1, b1⟩ := k2 _ _ ls hl (hW.put (c := (10, kCpF (E.2.2.2 k).2.2 (kFn vs) vs.length sp.toNatClampNeg dp.toNatClampNeg n.toNatClampNeg)) he hzz oq (by
      rw [kTc_i]
      show (H.setIfInBounds (E.1 + a) cn)[E.1 + a]? = some (vp_cell _ (_, .inl (kFn (kCpF _ _ _ _ _ _))))
      rw [kCpF_fn h5 (fun j hj => kFn_big hj), show (kCpF (E.2.2.2 k).2.2 (kFn vs) vs.length sp.toNatClampNeg dp.toNatClampNeg n.toNatClampNeg).length = vs.length from by simp [kCpF], hcn]
      simp [Array.getElem?_setIfInBounds, hlt]))
    ⟨by simp; exact hS.1, fun q g1 g2 => by
      rw [oq q (fun e => g2 (by rw [e]; exact Nat.le_add_right _ _))]
      exact hS.2.1 q g1 g2, fun q hq => by
      rcases List.mem_append.mp hq with h | h
      · exact hS.2.2 q h
      · obtain ⟨z, -, hz⟩ := List.mem_map.mp h
        rw [← hz]
        exact Nat.le_add_right _ _⟩ _ hheap X'
  exact ⟨t, step t a1, b1⟩
theorem kJ_objInit (pc' : Nat) {ix a : Nat} (hd : decode (kB M) pc = .ok (.invokespecial ix, 3)) (hw : Cond.methodLink (kY M).cls ix Lib.objectInit ∈ kWG ∧ Cond.instanceMethod Lib.objectInit ∈ kWG ∧ Cond.code Lib.objectInit ⟨#[0xb1]⟩ 1 none ∈ kWG) (hst : st = []) (hrm : 1 ≤ (krm M).frames ∧ 12 ≤ (krm M).locals) (hp : pc + 3 = pc') (kk : kJ E M r g' fc fs pc' lv st g) : kJ E M r g' fc fs pc lv (.ref a :: st) g := by
  subst hp
  subst hst
  intro p l e s m args below meth c hF R hR PQ hEx H locs ls hl hW hS
  have k2 := kk p l e s m args below meth c hF R hR PQ hEx H locs ls hl hW hS
  obtain ⟨hx, hb, hml, hr, hlk, hown, hts, hnm, hE⟩ := hF
  subst hR
  refine W.objInit hx hb hown (hts _ hw.1) (hts _ hw.2.1) (hts _ hw.2.2) rfl (by rw [hml]; exact hl.1) rfl hd hrm.1 ?_ k2
  show 2 * 0 + 0 + 12 ≤ _
  exact hrm.2
theorem kCats (E : kE) (st : List Value) : ((st.map (kTv E)).map fun v => v.category) = st.map fun v => v.category := by simp [kTv_cat, Function.comp_def]
theorem kJ_callv (pc' : Nat) (N : kM) (as : List Value) (st' : List Value) {ix n a ci : Nat} {ws : List Value} {r1 : Option Int32} {g1 : List kC} (hd : decode (kB M) pc = .ok (.invokevirtual ix, 3)) (hc : kCall (kY M).cls ix N n) (hv : Cond.instanceMethod (kY N) ∈ kWG ∧ Cond.selects (kY N).cls (kY N) (kY N) ∈ kWG) (he : g[a]? = some (ci, ws)) (hci : ci < 10 ∧ ∃ T k, kCl[ci]? = some ((kY N).cls, T, k)) (hst : st = as.reverse ++ .ref a :: st') (hn : as.length = n) (hcat : (st'.map fun v => v.category).sum ≤ 8) (hrm : kRoom M N) (hf : fc + kMC N ≤ kMC M ∧ fs + kMS N ≤ kMS M) (hJ : JM E N (.ref a :: as) g r1 g1) (hp : pc + 3 = pc') (kk : kJ E M r g' (fc + kMC N) (fs + kMS N) pc' lv ((r1.map Value.int).toList ++ st') g1) : kJ E M r g' fc fs pc lv st g := by
  subst hp
  subst hst
  intro p l e s m args below meth c hF R hR PQ hEx H locs ls hl hW hS
  have k2 := kk p l e s m args below meth c hF R hR PQ hEx
  obtain ⟨hx, hb, hml, hr, hlk, hown, hts, hnm, hE⟩ := hF
  subst hR
  obtain ⟨c1, c2, c3, c4, c5, c6⟩ := hc
  obtain ⟨hci1, T, k, hck⟩ := hci
  have hre := va_recv hE.1 hW.1 hck ((kWs_at he).trans (by rw [kTc_o E hci1]))
  have hpre : PreV s H (kY N).cls (E.1 + a) (kPre E g (.ref a :: as)) (as.map (kTv E)) := ⟨kPre_blind _ _ _, hre, fun U hU hWm => ⟨rfl, hE.warm hWm (by rw [hU]; exact hS), by rw [hU]; exact hW⟩⟩
  have hstk : ((as.reverse ++ .ref a :: st').map (kTv E)) = (as.map (kTv E)).reverse ++ .ref (E.1 + a) :: st'.map (kTv E) := by simp [kTv]
  have hroom : 2 * (F0 m pc ls ((as.reverse ++ .ref a :: st').map (kTv E))).monitorRoom + ((st'.map (kTv E)).map fun v => v.category).sum ≤ 8 := lv_room (by rw [kCats]; exact hcat)
  have c5' : ∀ sig, parseMethodDescriptor (kY N).desc = some sig → n = sig.parameters.length := fun sig h => by
    rw [h] at c5; exact (Option.some.inj c5).symm
  have hpay := pay_in hts (kws_good c1)
  rcases c6 with c6 | ⟨host, c6⟩
  · refine kGo (va_runV (Pc := kPre E g (.ref a :: as)) (C := (kY N).cls) (As := as.map (kTv E)) (rest := st'.map (kTv E)) ⟨hx, hb, hml, hown, hts⟩ (hJ l) ⟨⟨rfl, rfl, hrm.1, hrm.2, hpay, List.mem_cons_self, hts _ c1, hts _ c2, ⟨c3, c4⟩, c5', hts _ c6⟩, hts _ hv.1, hts _ hv.2⟩ hpre rfl (by rw [List.length_map]; exact hn) hl.1 hstk hroom hd hf) hS (fun H1 locs1 hW1 hS1 => ?_)
    have k3 := k2 H1 locs1 ls hl hW1 hS1
    rw [List.map_append] at k3
    cases r1 <;> exact k3
  · refine kGo (va_runVN (Pc := kPre E g (.ref a :: as)) (C := (kY N).cls) (As := as.map (kTv E)) (rest := st'.map (kTv E)) ⟨hx, hb, hml, hown, hts⟩ (hJ l) ⟨⟨⟨rfl, rfl, hrm.1, hrm.2, hpay, List.mem_cons_self⟩, hts _ c1, hts _ c2, ⟨c3, c4⟩, c5', va_Nw.use rfl (hE.2.1 _ c6)⟩, hts _ hv.1, hts _ hv.2⟩ hpre rfl (by rw [List.length_map]; exact hn) hl.1 hstk hroom hd hf) hS (fun H1 locs1 hW1 hS1 => ?_)
    have k3 := k2 H1 locs1 ls hl hW1 hS1
    rw [List.map_append] at k3
    cases r1 <;> exact k3
theorem kJ_calls (pc' : Nat) (N : kM) (as : List Value) (st' : List Value) {ix n : Nat} {r1 : Option Int32} {g1 : List kC} (hd : decode (kB M) pc = .ok (.invokestatic ix, 3)) (hc : kCall (kY M).cls ix N n) (hv : Cond.static (kY N) ∈ kWG) (hst : st = as.reverse ++ st') (hn : as.length = n) (hcat : (st'.map fun v => v.category).sum ≤ 8) (hrm : kRoom M N) (hf : fc + kMC N ≤ kMC M ∧ fs + kMS N ≤ kMS M) (hJ : JM E N as g r1 g1) (hp : pc + 3 = pc') (kk : kJ E M r g' (fc + kMC N) (fs + kMS N) pc' lv ((r1.map Value.int).toList ++ st') g1) : kJ E M r g' fc fs pc lv st g := by
  subst hp
  subst hst
  intro p l e s m args below meth c hF R hR PQ hEx H locs ls hl hW hS
  have k2 := kk p l e s m args below meth c hF R hR PQ hEx
  obtain ⟨hx, hb, hml, hr, hlk, hown, hts, hnm, hE⟩ := hF
  subst hR
  obtain ⟨c1, c2, c3, c4, c5, c6⟩ := hc
  have hpre : PreS s H (kPre E g as) (as.map (kTv E)) := ⟨kPre_blind _ _ _, fun U hU hWm => ⟨rfl, hE.warm hWm (by rw [hU]; exact hS), by rw [hU]; exact hW⟩⟩
  have hstk : ((as.reverse ++ st').map (kTv E)) = (as.map (kTv E)).reverse ++ st'.map (kTv E) := by simp
  have hroom : 2 * (F0 m pc ls ((as.reverse ++ st').map (kTv E))).monitorRoom + ((st'.map (kTv E)).map fun v => v.category).sum ≤ 8 := lv_room (by rw [kCats]; exact hcat)
  have c5' : ∀ sig, parseMethodDescriptor (kY N).desc = some sig → n = sig.parameters.length := fun sig h => by
    rw [h] at c5; exact (Option.some.inj c5).symm
  have hpay := pay_in hts (kws_good c1)
  rcases c6 with c6 | ⟨host, c6⟩
  · refine kGo (va_runS (Pc := kPre E g as) (As := as.map (kTv E)) (rest := st'.map (kTv E)) ⟨hx, hb, hml, hown, hts⟩ (hJ l) ⟨⟨rfl, rfl, hrm.1, hrm.2, hpay, List.mem_cons_self, hts _ c1, hts _ c2, ⟨c3, c4⟩, c5', hts _ c6⟩, hts _ hv⟩ hpre rfl (by rw [List.length_map]; exact hn) hl.1 hstk hroom hd hf) hS (fun H1 locs1 hW1 hS1 => ?_)
    have k3 := k2 H1 locs1 ls hl hW1 hS1
    rw [List.map_append] at k3
    cases r1 <;> exact k3
  · refine kGo (va_runSN (Pc := kPre E g as) (As := as.map (kTv E)) (rest := st'.map (kTv E)) ⟨hx, hb, hml, hown, hts⟩ (hJ l) ⟨⟨⟨rfl, rfl, hrm.1, hrm.2, hpay, List.mem_cons_self⟩, hts _ c1, hts _ c2, ⟨c3, c4⟩, c5', va_Nw.use rfl (hE.2.1 _ c6)⟩, hts _ hv, trivial⟩ hpre rfl (by rw [List.length_map]; exact hn) hl.1 hstk hroom hd hf) hS (fun H1 locs1 hW1 hS1 => ?_)
    have k3 := k2 H1 locs1 ls hl hW1 hS1
    rw [List.map_append] at k3
    cases r1 <;> exact k3
theorem kJ_calln (pc' : Nat) (N : kM) (as : List Value) (st' : List Value) {ix n a : Nat} {g1 : List kC} (hd : decode (kB M) pc = .ok (.invokespecial ix, 3)) (hc : kCall (kY M).cls ix N n) (hv : kR N = none ∧ (kY N).name = "<init>" ∧ Cond.instanceMethod (kY N) ∈ kWG) (hst : st = as.reverse ++ .ref a :: st') (hn : as.length = n) (hcat : (st'.map fun v => v.category).sum ≤ 8) (hrm : kRoom M N) (hf : fc + kMC N ≤ kMC M ∧ fs + kMS N ≤ kMS M) (hJ : JM E N (.ref a :: as) g none g1) (hp : pc + 3 = pc') (kk : kJ E M r g' (fc + kMC N) (fs + kMS N) pc' lv st' g1) : kJ E M r g' fc fs pc lv st g := by
  subst hp
  subst hst
  intro p l e s m args below meth c hF R hR PQ hEx H locs ls hl hW hS
  have k2 := kk p l e s m args below meth c hF R hR PQ hEx
  obtain ⟨hx, hb, hml, hr, hlk, hown, hts, hnm, hE⟩ := hF
  subst hR
  obtain ⟨c1, c2, c3, c4, c5, c6⟩ := hc
  have hpre : PreS s H (kPre E g (.ref a :: as)) (.ref (E.1 + a) :: as.map (kTv E)) := ⟨kPre_blind _ _ _, fun U hU hWm => ⟨rfl, hE.warm hWm (by rw [hU]; exact hS), by rw [hU]; exact hW⟩⟩
  have hstk : ((as.reverse ++ .ref a :: st').map (kTv E)) = (as.map (kTv E)).reverse ++ .ref (E.1 + a) :: st'.map (kTv E) := by simp [kTv]
  have hroom : 2 * (F0 m pc ls ((as.reverse ++ .ref a :: st').map (kTv E))).monitorRoom + ((st'.map (kTv E)).map fun v => v.category).sum ≤ 8 := lv_room (by rw [kCats]; exact hcat)
  have c5' : ∀ sig, parseMethodDescriptor (kY N).desc = some sig → n = sig.parameters.length := fun sig h => by
    rw [h] at c5; exact (Option.some.inj c5).symm
  have hpay := pay_in hts (kws_good c1)
  have hcode := hts _ c1
  rw [hv.1] at hcode
  have hmem : Cond.code (kY N) (kB N) (kL N) none ∈ kws N := by rw [← hv.1]; exact List.mem_cons_self
  rcases c6 with c6 | ⟨host, c6⟩
  · exact kGo (va_runI (Pc := kPre E g (.ref a :: as)) (b := E.1 + a) (bytes := kB N) (maxL := kL N) (As := as.map (kTv E)) (rest := st'.map (kTv E)) ⟨hx, hb, hml, hown, hts⟩ (hJ l) ⟨⟨rfl, rfl, hrm.1, hrm.2, hpay, hmem, hcode, hts _ c2, ⟨c3, c4⟩, c5', hts _ c6⟩, hv.2.1, hts _ hv.2.2⟩ hpre rfl (by rw [List.length_map]; exact hn) hl.1 hstk hroom hd hf) hS (fun H1 locs1 hW1 hS1 => k2 H1 locs1 ls hl hW1 hS1)
  · exact kGo (va_runIN (Pc := kPre E g (.ref a :: as)) (b := E.1 + a) (bytes := kB N) (maxL := kL N) (As := as.map (kTv E)) (rest := st'.map (kTv E)) ⟨hx, hb, hml, hown, hts⟩ (hJ l) ⟨⟨⟨rfl, rfl, hrm.1, hrm.2, hpay, hmem⟩, hcode, hts _ c2, ⟨c3, c4⟩, c5', va_Nw.use rfl (hE.2.1 _ c6)⟩, hv.2.1, hts _ hv.2.2⟩ hpre rfl (by rw [List.length_map]; exact hn) hl.1 hstk hroom hd hf) hS (fun H1 locs1 hW1 hS1 => k2 H1 locs1 ls hl hW1 hS1)
end ROWS
end
section
/-! THE SHAPE of the objects once they are made: object number, kind, what its places hold (0: a number; d: the object d further on). mk h: the cells that hold the numbers h. -/
abbrev kH : Type := Nat → Nat → Int32
def kSh (κ : Nat) : Nat × List Nat := match κ with
  | 0 => (0, [0, 0, 0, 0, 0, 1, 2, 3, 4, 5, 6])
  | 1 => (1, [1, 2, 3])
  | 2 => (2, [1, 0, 0])
  | 3 => (3, [0, 0, 0, 0, 0, 0, 1, 2, 3, 4])
  | 4 => (4, [0, 1, 2, 3])
  | 5 => (5, [1, 0, 0, 0, 2, 3, 4])
  | 6 => (6, [1, 71, 141, 145, 637, 642, 643, 644, 645])
  | 7 => (7, [1, 2, 3, 0, 4, 5, 6, 0, 0, 7, 8, 9, 10, 0, 0, 0])
  | 8 => (10, List.replicate 6 0)
  | 9 => (10, List.replicate 12 0)
  | 10 => (10, List.replicate 20 0)
  | 11 => (10, List.replicate 80 0)
  | 12 => (10, List.replicate 109 0)
  | 13 => (10, List.replicate 760 0)
  | 14 => (10, List.replicate 4560 0)
  | 15 => (10, List.replicate 1520 0)
  | 16 => (10, List.replicate 240 0)
  | 17 => (11, List.replicate 80 0)
  | 18 => (12, List.replicate 2 0)
  | 19 => (13, (List.range 12).map (fun j => 5 + 5 * j))
  | 20 => (14, (List.range 7).map (fun j => 1 + 70 * j))
  | _ => (14, (List.range 2).map (fun j => 4 + 70 * j))
def kKc : List Nat := [0, 8, 9, 9, 9, 19, 4, 10, 10, 10] ++ (List.replicate 12 [3, 8, 9, 9, 9]).flatten
def kKinds : List Nat := [6] ++ kKc ++ kKc ++ [1, 9, 9, 8] ++ [2, 20] ++ (List.replicate 7 kKc).flatten ++ [5, 17, 17, 11, 11] ++ [21, 18, 9, 12] ++ kKc ++ kKc ++ [7, 13, 13, 14, 15, 18, 11, 9, 9, 8, 16]
def kIs (a κ : Nat) : Prop := kKinds[a]? = some κ
def kCell (h : kH) (a κ : Nat) : kC := ((kSh κ).1, (kSh κ).2.mapIdx (fun k o => if o = 0 then .int (h a k) else .ref (a + o)))
def mk (h : kH) : List kC := kKinds.mapIdx (fun a κ => kCell h a κ)
def hset (h : kH) (a k : Nat) (v : Int32) : kH := fun b j => if b = a ∧ j = k then v else h b j
def hcpy (h : kH) (a0 a sp dp n : Nat) : kH := fun b j => if b = a then va_cpy (h a0) (h a) sp dp n j else h b j
theorem mk_get (h : kH) {a κ : Nat} (hk : kIs a κ) : (mk h)[a]? = some (kCell h a κ) := by
  unfold mk
  rw [List.getElem?_mapIdx, hk]
  rfl
theorem kCell_get (h : kH) (a κ k : Nat) : (kCell h a κ).2[k]? = (kSh κ).2[k]?.map (fun o => if o = 0 then .int (h a k) else .ref (a + o)) := by
  simp [kCell, List.getElem?_mapIdx]
theorem mk_set (h h' : kH) {a κ : Nat} (hk : kIs a κ) {c : kC} (hc : c = kCell h' a κ) (hr : ∀ b, b ≠ a → h' b = h b) : (mk h).set a c = mk h' := by
  apply List.ext_getElem?
  intro b
  rw [List.getElem?_set]
  unfold mk
  rw [List.getElem?_mapIdx, List.getElem?_mapIdx]
  by_cases hb : a = b
  · subst hb
    have hl : a < kKinds.length := (List.getElem?_eq_some_iff.mp hk).1
    rw [if_pos rfl, if_pos (by simpa using hl), hk, hc]
    rfl
  · rw [if_neg hb]
    congr 1
    funext κ'
    simp only [kCell, hr b (Ne.symm hb)]
theorem kCell_set (h : kH) {a κ k : Nat} (v : Int32) (hs : (kSh κ).2[k]? = some 0) : ((kSh κ).1, (kCell h a κ).2.set k (.int v)) = kCell (hset h a k v) a κ := by
  refine Prod.ext rfl ?_
  apply List.ext_getElem?
  intro j
  rw [kCell_get, List.getElem?_set, kCell_get]
  by_cases hj : k = j
  · subst hj
    have hl : k < (kCell h a κ).2.length := by simpa [kCell] using (List.getElem?_eq_some_iff.mp hs).1
    rw [if_pos rfl, if_pos hl, hs]
    simp [hset]
  · rw [if_neg hj]
    have : ∀ o, (if o = 0 then Value.int (h a j) else .ref (a + o)) = if o = 0 then Value.int (hset h a k v a j) else .ref (a + o) := fun o => by simp [hset, Ne.symm hj]
    congr 1
    funext o
    exact this o
theorem mk_put (h : kH) {a κ k : Nat} (v : Int32) (hk : kIs a κ) (hs : (kSh κ).2[k]? = some 0) : (mk h).set a ((kSh κ).1, (kCell h a κ).2.set k (.int v)) = mk (hset h a k v) :=
  mk_set h (hset h a k v) hk (kCell_set h v hs) (fun b hb => by funext j; simp [hset, hb])
theorem kIs_lt {a κ : Nat} (h : kIs a κ) : a < 797 := by
  have h1 := (List.getElem?_eq_some_iff.mp h).1
  have h2 : kKinds.length = 797 := by decide +kernel
  omega
theorem kRepl {κ tg n : Nat} (hs : kSh κ = (tg, List.replicate n 0)) (h : kH) (a : Nat) : kCell h a κ = (tg, (List.range n).map (fun k => .int (h a k))) := by
  unfold kCell
  rw [hs]
  refine Prod.ext rfl ?_
  apply List.ext_getElem?
  intro j
  by_cases hj : j < n
  · simp [List.getElem?_mapIdx, List.getElem?_replicate, hj]
  · simp [List.getElem?_mapIdx, List.getElem?_replicate, hj]
section ROWS
variable {E : kE} {M : kM} {r : Option Int32} {g' : List kC} {fc fs pc : Nat} {lv : kLv} {st : List Value} {h : kH}
theorem kM_getI (pc' : Nat) {ix k a κ : Nat} {t : FieldType} {fin : Bool} (hd : decode (kB M) pc = .ok (.getfield ix, 3)) (hf : kFl (kY M).cls ix κ k t fin) (hk : kIs a κ) (hκ : (kSh κ).1 = κ) (hs : (kSh κ).2[k]? = some 0) (hp : pc + 3 = pc') (kk : kJ E M r g' fc fs pc' lv (.int (h a k) :: st) (mk h)) : kJ E M r g' fc fs pc lv (.ref a :: st) (mk h) := by
  refine kJ_getf pc' (vs := (kCell h a κ).2) hd hf ((mk_get h hk).trans ?_) ?_ hp kk
  · exact congrArg some (Prod.ext hκ rfl)
  · rw [kCell_get, hs]; rfl
theorem kM_getR (pc' o y : Nat) {ix k a κ : Nat} {t : FieldType} {fin : Bool} (hd : decode (kB M) pc = .ok (.getfield ix, 3)) (hf : kFl (kY M).cls ix κ k t fin) (hk : kIs a κ) (hκ : (kSh κ).1 = κ) (hs : (kSh κ).2[k]? = some (o + 1)) (hy : a + (o + 1) = y) (hp : pc + 3 = pc') (kk : kJ E M r g' fc fs pc' lv (.ref y :: st) (mk h)) : kJ E M r g' fc fs pc lv (.ref a :: st) (mk h) := by
  subst hy
  refine kJ_getf pc' (vs := (kCell h a κ).2) hd hf ((mk_get h hk).trans ?_) ?_ hp kk
  · exact congrArg some (Prod.ext hκ rfl)
  · rw [kCell_get, hs]; rfl
theorem kM_put (pc' : Nat) {ix k a κ : Nat} {t : FieldType} {v : Int32} (hd : decode (kB M) pc = .ok (.putfield ix, 3)) (hf : kFl (kY M).cls ix κ k t false) (hk : kIs a κ) (hκ : (kSh κ).1 = κ) (hs : (kSh κ).2[k]? = some 0) (hv : kFit t (.int v)) (hp : pc + 3 = pc') (kk : kJ E M r g' fc fs pc' lv st (mk (hset h a k v))) : kJ E M r g' fc fs pc lv (.int v :: .ref a :: st) (mk h) := by
  refine kJ_putf pc' (vs := (kCell h a κ).2) hd hf ((mk_get h hk).trans ?_) hv ?_ hp ?_
  · exact congrArg some (Prod.ext hκ rfl)
  · simpa [kCell] using (List.getElem?_eq_some_iff.mp hs).1
  · have e := mk_put h v hk hs
    rw [hκ] at e
    rw [e]
    exact kk
theorem kRange_get {α : Type} {f : Nat → α} {n k : Nat} (hk : k < n) : ((List.range n).map f)[k]? = some (f k) := by simp [hk]
theorem kM_iald (pc' n : Nat) {a κ : Nat} {i : Int32} (hd : decode (kB M) pc = .ok (.iaload, 1)) (hk : kIs a κ) (hs : kSh κ = (10, List.replicate n 0)) (hin : vp_in i n) (hp : pc + 1 = pc') (kk : kJ E M r g' fc fs pc' lv (.int (h a i.toNatClampNeg) :: st) (mk h)) : kJ E M r g' fc fs pc lv (.int i :: .ref a :: st) (mk h) :=
  kJ_iald pc' (vs := (List.range n).map (fun k => .int (h a k))) hd ((mk_get h hk).trans (congrArg some (kRepl hs h a))) (by simpa using hin) (kRange_get (kIn_lt hin)) hp kk
theorem kM_cald (pc' n : Nat) {a κ : Nat} {i : Int32} (hd : decode (kB M) pc = .ok (.caload, 1)) (hk : kIs a κ) (hs : kSh κ = (11, List.replicate n 0)) (hin : vp_in i n) (hp : pc + 1 = pc') (kk : kJ E M r g' fc fs pc' lv (.int (h a i.toNatClampNeg) :: st) (mk h)) : kJ E M r g' fc fs pc lv (.int i :: .ref a :: st) (mk h) :=
  kJ_cald pc' (vs := (List.range n).map (fun k => .int (h a k))) hd ((mk_get h hk).trans (congrArg some (kRepl hs h a))) (by simpa using hin) (kRange_get (kIn_lt hin)) hp kk
theorem kM_zald (pc' n : Nat) {a κ : Nat} {i : Int32} (hd : decode (kB M) pc = .ok (.baload, 1)) (hk : kIs a κ) (hs : kSh κ = (12, List.replicate n 0)) (hin : vp_in i n) (hp : pc + 1 = pc') (kk : kJ E M r g' fc fs pc' lv (.int (h a i.toNatClampNeg) :: st) (mk h)) : kJ E M r g' fc fs pc lv (.int i :: .ref a :: st) (mk h) :=
  kJ_zald pc' (vs := (List.range n).map (fun k => .int (h a k))) hd ((mk_get h hk).trans (congrArg some (kRepl hs h a))) (by simpa using hin) (kRange_get (kIn_lt hin)) hp kk
theorem kPutA {κ tg n : Nat} (hs : kSh κ = (tg, List.replicate n 0)) {a k : Nat} (hk : kIs a κ) (hn : k < n) (v : Int32) : (mk h).set a (tg, ((List.range n).map (fun k => Value.int (h a k))).set k (.int v)) = mk (hset h a k v) := by
  have e := mk_put (k := k) h v hk (by rw [hs]; simp [List.getElem?_replicate, hn])
  rw [kRepl hs, hs] at e
  exact e
theorem kM_iast (pc' n : Nat) {a κ : Nat} {i x : Int32} (hd : decode (kB M) pc = .ok (.iastore, 1)) (hk : kIs a κ) (hs : kSh κ = (10, List.replicate n 0)) (hin : vp_in i n) (hp : pc + 1 = pc') (kk : kJ E M r g' fc fs pc' lv st (mk (hset h a i.toNatClampNeg x))) : kJ E M r g' fc fs pc lv (.int x :: .int i :: .ref a :: st) (mk h) :=
  kJ_iast pc' (vs := (List.range n).map (fun k => .int (h a k))) hd ((mk_get h hk).trans (congrArg some (kRepl hs h a))) (by simpa using hin) hp (by rw [kPutA hs hk (kIn_lt hin)]; exact kk)
theorem kM_cast (pc' n : Nat) {a κ : Nat} {i x : Int32} (hd : decode (kB M) pc = .ok (.castore, 1)) (hk : kIs a κ) (hs : kSh κ = (11, List.replicate n 0)) (hin : vp_in i n) (hp : pc + 1 = pc') (kk : kJ E M r g' fc fs pc' lv st (mk (hset h a i.toNatClampNeg (vp_nar .char x)))) : kJ E M r g' fc fs pc lv (.int x :: .int i :: .ref a :: st) (mk h) :=
  kJ_cast pc' (vs := (List.range n).map (fun k => .int (h a k))) hd ((mk_get h hk).trans (congrArg some (kRepl hs h a))) (by simpa using hin) hp (by rw [kPutA hs hk (kIn_lt hin)]; exact kk)
theorem kM_zast (pc' n : Nat) {a κ : Nat} {i x : Int32} (hd : decode (kB M) pc = .ok (.bastore, 1)) (hk : kIs a κ) (hs : kSh κ = (12, List.replicate n 0)) (hin : vp_in i n) (hp : pc + 1 = pc') (kk : kJ E M r g' fc fs pc' lv st (mk (hset h a i.toNatClampNeg (vp_nar .boolean x)))) : kJ E M r g' fc fs pc lv (.int x :: .int i :: .ref a :: st) (mk h) :=
  kJ_zast pc' (vs := (List.range n).map (fun k => .int (h a k))) hd ((mk_get h hk).trans (congrArg some (kRepl hs h a))) (by simpa using hin) hp (by rw [kPutA hs hk (kIn_lt hin)]; exact kk)
theorem kM_aald (pc' n b s y : Nat) {a κ tg : Nat} {i : Int32} (hd : decode (kB M) pc = .ok (.aaload, 1)) (hk : kIs a κ) (hs : kSh κ = (tg, (List.range n).map (fun j => b + s * j))) (hb : 0 < b) (ht : tg = 13 ∨ tg = 14) (hin : vp_in i n) (hy : a + (b + s * i.toNatClampNeg) = y) (hp : pc + 1 = pc') (kk : kJ E M r g' fc fs pc' lv (.ref y :: st) (mk h)) : kJ E M r g' fc fs pc lv (.int i :: .ref a :: st) (mk h) := by
  subst hy
  have hlt := kIn_lt hin
  have e : kCell h a κ = (tg, (kCell h a κ).2) := Prod.ext (by show (kSh κ).1 = tg; rw [hs]) rfl
  have hlen : (kCell h a κ).2.length = n := by simp [kCell, hs]
  refine kJ_aald pc' (vs := (kCell h a κ).2) hd ((mk_get h hk).trans (congrArg some e)) ht (by rw [hlen]; exact hin) ?_ hp kk
  rw [kCell_get, hs]
  simp only [kRange_get hlt, Option.map_some]
  rw [if_neg (by omega)]
theorem kM_alen (pc' n : Nat) {a κ : Nat} (hd : decode (kB M) pc = .ok (.arraylength, 1)) (hk : kIs a κ) (hs : kSh κ = (10, List.replicate n 0)) (hp : pc + 1 = pc') (kk : kJ E M r g' fc fs pc' lv (.int (Int32.ofNat n) :: st) (mk h)) : kJ E M r g' fc fs pc lv (.ref a :: st) (mk h) :=
  kJ_alen pc' (vs := (List.range n).map (fun k => .int (h a k))) hd ((mk_get h hk).trans (congrArg some (kRepl hs h a))) (Or.inl rfl) hp (by simpa using kk)
theorem kM_alenM (pc' n : Nat) {a κ : Nat} {f : Nat → Nat} (hd : decode (kB M) pc = .ok (.arraylength, 1)) (hk : kIs a κ) (hs : kSh κ = (14, (List.range n).map f)) (hp : pc + 1 = pc') (kk : kJ E M r g' fc fs pc' lv (.int (Int32.ofNat n) :: st) (mk h)) : kJ E M r g' fc fs pc lv (.ref a :: st) (mk h) := by
  have e : kCell h a κ = (14, (kCell h a κ).2) := Prod.ext (by show (kSh κ).1 = 14; rw [hs]) rfl
  have hlen : (kCell h a κ).2.length = n := by simp [kCell, hs]
  exact kJ_alen pc' (vs := (kCell h a κ).2) hd ((mk_get h hk).trans (congrArg some e)) (Or.inr (Or.inr rfl)) hp (by rw [hlen]; exact kk)
theorem kM_copy (pc' n0 n1 : Nat) {ix a0 a κ0 κ : Nat} {sp dp n : Int32} (hd : decode (kB M) pc = .ok (.invokestatic ix, 3)) (hw : kCpW (kY M).cls ix) (hk0 : kIs a0 κ0) (hs0 : kSh κ0 = (10, List.replicate n0 0)) (hk : kIs a κ) (hs : kSh κ = (10, List.replicate n1 0)) (h1 : ¬ sp < 0) (h2 : ¬ dp < 0) (h3 : ¬ n < 0) (h4 : sp.toNatClampNeg + n.toNatClampNeg ≤ n0) (h5 : dp.toNatClampNeg + n.toNatClampNeg ≤ n1) (hrm : 1 ≤ (krm M).frames ∧ (st.map fun v => v.category).sum + (nativeFrameWords "java/lang/System" "arraycopy" 5 + 11) ≤ (krm M).locals) (hp : pc + 3 = pc') (kk : kJ E M r g' fc fs pc' lv st (mk (hcpy h a0 a sp.toNatClampNeg dp.toNatClampNeg n.toNatClampNeg))) : kJ E M r g' fc fs pc lv (.int n :: .int dp :: .ref a :: .int sp :: .ref a0 :: st) (mk h) := by
  refine kJ_copy pc' (vs0 := (List.range n0).map (fun k => .int (h a0 k))) (vs := (List.range n1).map (fun k => .int (h a k))) hd hw ((mk_get h hk0).trans (congrArg some (kRepl hs0 h a0))) ((mk_get h hk).trans (congrArg some (kRepl hs h a))) h1 h2 h3 (by simpa using h4) (by simpa using h5) hrm hp ?_
  rw [mk_set h (hcpy h a0 a sp.toNatClampNeg dp.toNatClampNeg n.toNatClampNeg) hk _ (fun b hb => by funext j; simp [hcpy, hb])]
  · exact kk
  · rw [kRepl hs]
    refine Prod.ext rfl ?_
    unfold kCpF
    simp only [List.length_map, List.length_range]
    apply List.map_congr_left
    intro j hj
    have hj' : j < n1 := List.mem_range.mp hj
    have ef : ∀ (b m k : Nat), k < m → kFn ((List.range m).map (fun k => Value.int (h b k))) k = h b k := fun b m k hkm => by simp [kFn, List.getD_eq_getElem?_getD, hkm, kInt]
    simp only [hcpy, if_pos, va_cpy]
    by_cases hr : dp.toNatClampNeg ≤ j ∧ j < dp.toNatClampNeg + n.toNatClampNeg
    · rw [if_pos hr, if_pos hr, ef _ _ _ (by omega)]
    · rw [if_neg hr, if_neg hr, ef _ _ _ hj']
end ROWS
end
section
/-! kinds of what an object holds -/
-- kinds of what an object holds
theorem kC_1 : ∀ a < 797, kKinds[a]? = some 0 → kKinds[a + 1]? = some 8 ∧ kKinds[a + 2]? = some 9 ∧ kKinds[a + 3]? = some 9 ∧ kKinds[a + 4]? = some 9 ∧ kKinds[a + 5]? = some 19 ∧ kKinds[a + 6]? = some 4 ∧ ∀ i < 12, kKinds[a + 10 + 5 * i]? = some 3 := by decide +kernel
theorem kI_1 : ∀ a < 797, kKinds[a]? = some 3 → kKinds[a + 1]? = some 8 ∧ kKinds[a + 2]? = some 9 ∧ kKinds[a + 3]? = some 9 ∧ kKinds[a + 4]? = some 9 := by decide +kernel
theorem kV_1 : ∀ a < 797, kKinds[a]? = some 4 → kKinds[a + 1]? = some 10 ∧ kKinds[a + 2]? = some 10 ∧ kKinds[a + 3]? = some 10 := by decide +kernel
theorem kHr_1 : ∀ a < 797, kKinds[a]? = some 1 → kKinds[a + 1]? = some 9 ∧ kKinds[a + 2]? = some 9 ∧ kKinds[a + 3]? = some 8 := by decide +kernel
theorem kHi_1 : ∀ a < 797, kKinds[a]? = some 2 → kKinds[a + 1]? = some 20 ∧ ∀ i < 7, kKinds[a + 2 + 70 * i]? = some 0 := by decide +kernel
theorem kPd_1 : ∀ a < 797, kKinds[a]? = some 5 → kKinds[a + 1]? = some 17 ∧ kKinds[a + 2]? = some 17 ∧ kKinds[a + 3]? = some 11 ∧ kKinds[a + 4]? = some 11 := by decide +kernel
theorem kPv_1 : kIs 0 6 ∧ kIs 1 0 ∧ kIs 71 0 ∧ kIs 141 1 ∧ kIs 145 2 ∧ kIs 637 5 ∧ kIs 642 21 ∧ kIs 643 18 ∧ kIs 644 9 ∧ kIs 645 12 ∧ kIs 646 0 ∧ kIs 716 0 := by unfold kIs; decide +kernel
theorem kMo_1 : kIs 786 7 ∧ kIs 787 13 ∧ kIs 788 13 ∧ kIs 789 14 ∧ kIs 790 15 ∧ kIs 791 18 ∧ kIs 792 11 ∧ kIs 793 9 ∧ kIs 794 9 ∧ kIs 795 8 ∧ kIs 796 16 := by unfold kIs; decide +kernel
theorem kC_item {c : Nat} (h : kIs c 0) {i : Nat} (hi : i < 12) : kIs (c + 10 + 5 * i) 3 := (kC_1 c (kIs_lt h) h).2.2.2.2.2.2 i hi
theorem kk_0_5 {c : Nat} (h : kIs c 0) : kIs (c + 1) 8 := (kC_1 c (kIs_lt h) h).1
theorem kk_0_6 {c : Nat} (h : kIs c 0) : kIs (c + 2) 9 := (kC_1 c (kIs_lt h) h).2.1
theorem kk_0_7 {c : Nat} (h : kIs c 0) : kIs (c + 3) 9 := (kC_1 c (kIs_lt h) h).2.2.1
theorem kk_0_8 {c : Nat} (h : kIs c 0) : kIs (c + 4) 9 := (kC_1 c (kIs_lt h) h).2.2.2.1
theorem kk_0_9 {c : Nat} (h : kIs c 0) : kIs (c + 5) 19 := (kC_1 c (kIs_lt h) h).2.2.2.2.1
theorem kk_0_10 {c : Nat} (h : kIs c 0) : kIs (c + 6) 4 := (kC_1 c (kIs_lt h) h).2.2.2.2.2.1
theorem kk_1_0 {c : Nat} (h : kIs c 1) : kIs (c + 1) 9 := (kHr_1 c (kIs_lt h) h).1
theorem kk_1_1 {c : Nat} (h : kIs c 1) : kIs (c + 2) 9 := (kHr_1 c (kIs_lt h) h).2.1
theorem kk_1_2 {c : Nat} (h : kIs c 1) : kIs (c + 3) 8 := (kHr_1 c (kIs_lt h) h).2.2
theorem kk_2_0 {c : Nat} (h : kIs c 2) : kIs (c + 1) 20 := (kHi_1 c (kIs_lt h) h).1
theorem kk_3_6 {c : Nat} (h : kIs c 3) : kIs (c + 1) 8 := (kI_1 c (kIs_lt h) h).1
theorem kk_3_7 {c : Nat} (h : kIs c 3) : kIs (c + 2) 9 := (kI_1 c (kIs_lt h) h).2.1
theorem kk_3_8 {c : Nat} (h : kIs c 3) : kIs (c + 3) 9 := (kI_1 c (kIs_lt h) h).2.2.1
theorem kk_3_9 {c : Nat} (h : kIs c 3) : kIs (c + 4) 9 := (kI_1 c (kIs_lt h) h).2.2.2
theorem kk_4_1 {c : Nat} (h : kIs c 4) : kIs (c + 1) 10 := (kV_1 c (kIs_lt h) h).1
theorem kk_4_2 {c : Nat} (h : kIs c 4) : kIs (c + 2) 10 := (kV_1 c (kIs_lt h) h).2.1
theorem kk_4_3 {c : Nat} (h : kIs c 4) : kIs (c + 3) 10 := (kV_1 c (kIs_lt h) h).2.2
theorem kk_5_0 {c : Nat} (h : kIs c 5) : kIs (c + 1) 17 := (kPd_1 c (kIs_lt h) h).1
theorem kk_5_4 {c : Nat} (h : kIs c 5) : kIs (c + 2) 17 := (kPd_1 c (kIs_lt h) h).2.1
theorem kk_5_5 {c : Nat} (h : kIs c 5) : kIs (c + 3) 11 := (kPd_1 c (kIs_lt h) h).2.2.1
theorem kk_5_6 {c : Nat} (h : kIs c 5) : kIs (c + 4) 11 := (kPd_1 c (kIs_lt h) h).2.2.2
theorem kk_h {c : Nat} (h : kIs c 2) {i : Nat} (hi : i < 7) : kIs (c + 2 + 70 * i) 0 := (kHi_1 c (kIs_lt h) h).2 i hi
theorem kk_s : ∀ i < 2, kIs (646 + 70 * i) 0 := by unfold kIs; decide +kernel
theorem kp_0 : kIs 0 6 := kPv_1.1
theorem kp_1 : kIs 1 0 := kPv_1.2.1
theorem kp_71 : kIs 71 0 := kPv_1.2.2.1
theorem kp_141 : kIs 141 1 := kPv_1.2.2.2.1
theorem kp_145 : kIs 145 2 := kPv_1.2.2.2.2.1
theorem kp_637 : kIs 637 5 := kPv_1.2.2.2.2.2.1
theorem kp_642 : kIs 642 21 := kPv_1.2.2.2.2.2.2.1
theorem kp_643 : kIs 643 18 := kPv_1.2.2.2.2.2.2.2.1
theorem kp_644 : kIs 644 9 := kPv_1.2.2.2.2.2.2.2.2.1
theorem kp_645 : kIs 645 12 := kPv_1.2.2.2.2.2.2.2.2.2.1
theorem km_786 : kIs 786 7 := kMo_1.1
theorem km_787 : kIs 787 13 := kMo_1.2.1
theorem km_788 : kIs 788 13 := kMo_1.2.2.1
theorem km_789 : kIs 789 14 := kMo_1.2.2.2.1
theorem km_790 : kIs 790 15 := kMo_1.2.2.2.2.1
theorem km_791 : kIs 791 18 := kMo_1.2.2.2.2.2.1
theorem km_792 : kIs 792 11 := kMo_1.2.2.2.2.2.2.1
theorem km_793 : kIs 793 9 := kMo_1.2.2.2.2.2.2.2.1
theorem km_794 : kIs 794 9 := kMo_1.2.2.2.2.2.2.2.2.1
theorem km_795 : kIs 795 8 := kMo_1.2.2.2.2.2.2.2.2.2.1
theorem km_796 : kIs 796 16 := kMo_1.2.2.2.2.2.2.2.2.2.2
end
section
/-! WORDS of the code that is read off the methods: guards, binds, lets; and their rows. -/
abbrev kx (i : Int32) : Nat := i.toNatClampNeg
/-- an index that must lie in 0 .. n - 1 -/
def kG {α : Type} (i : Int32) (n : Nat) (k : Option α) : Option α := if i < 0 ∨ n ≤ i.toNatClampNeg then none else k
theorem kG_some {α : Type} {i : Int32} {n : Nat} {k : Option α} {r : α} (h : kG i n k = some r) : vp_in i n ∧ k = some r := by
  unfold kG at h
  by_cases c : i < 0 ∨ n ≤ i.toNatClampNeg
  · rw [if_pos c] at h; cases h
  · rw [if_neg c] at h; exact ⟨c, h⟩
theorem kG_in {α : Type} {i : Int32} {n : Nat} {k : Option α} (h : vp_in i n) : kG i n k = k := if_neg h
def kCg {α : Type} (sp dp n : Int32) (n0 n1 : Nat) (k : Option α) : Option α := if sp < 0 ∨ dp < 0 ∨ n < 0 ∨ n0 < kx sp + kx n ∨ n1 < kx dp + kx n then none else k
theorem kCg_some {α : Type} {sp dp n : Int32} {n0 n1 : Nat} {k : Option α} {r : α} (h : kCg sp dp n n0 n1 k = some r) : (¬ sp < 0 ∧ ¬ dp < 0 ∧ ¬ n < 0 ∧ kx sp + kx n ≤ n0 ∧ kx dp + kx n ≤ n1) ∧ k = some r := by
  unfold kCg at h
  by_cases c : sp < 0 ∨ dp < 0 ∨ n < 0 ∨ n0 < kx sp + kx n ∨ n1 < kx dp + kx n
  · rw [if_pos c] at h; cases h
  · rw [if_neg c] at h
    refine ⟨⟨fun q => c (Or.inl q), fun q => c (Or.inr (Or.inl q)), fun q => c (Or.inr (Or.inr (Or.inl q))), ?_, ?_⟩, h⟩
    · exact Nat.not_lt.mp (fun q => c (Or.inr (Or.inr (Or.inr (Or.inl q)))))
    · exact Nat.not_lt.mp (fun q => c (Or.inr (Or.inr (Or.inr (Or.inr q)))))
def kLet {α β : Type} (a : α) (f : α → β) : β := f a
theorem kLet_e {α β : Type} {a : α} {f : α → β} {r : β} (h : kLet a f = r) : ∃ v, v = a ∧ f v = r := ⟨a, rfl, h⟩
def kBi {α β : Type} (x : Option α) (k : α → Option β) : Option β := match x with
  | none => none
  | some a => k a
theorem kBi_some {α β : Type} {x : Option α} {k : α → Option β} {r : β} (h : kBi x k = some r) : ∃ a, x = some a ∧ k a = some r := by
  cases x with
  | none => cases h
  | some a => exact ⟨a, rfl, h⟩
def kBd {α β γ : Type} (x : Option (α × β)) (k : α → β → Option γ) : Option γ := match x with
  | none => none
  | some p => k p.1 p.2
theorem kBd_some {α β γ : Type} {x : Option (α × β)} {k : α → β → Option γ} {r : γ} (h : kBd x k = some r) : ∃ a b, x = some (a, b) ∧ k a b = some r := by
  cases x with
  | none => cases h
  | some p => exact ⟨p.1, p.2, rfl, h⟩
theorem kIf_t {α : Type} {c : Prop} [Decidable c] {a b r : α} (h : (if c then a else b) = r) (hc : c) : a = r := by rw [if_pos hc] at h; exact h
theorem kIf_f {α : Type} {c : Prop} [Decidable c] {a b r : α} (h : (if c then a else b) = r) (hc : ¬ c) : b = r := by rw [if_neg hc] at h; exact h
def kB2 (b : Bool) : Int32 := match b with
  | true => 1
  | false => 0
theorem kB2_0 {b : Bool} (h : kB2 b = 0) : ¬ (b = true) := by cases b <;> first | decide | (revert h; decide)
theorem kB2_1 {b : Bool} (h : ¬ kB2 b = 0) : b = true := by cases b <;> first | rfl | exact absurd rfl h
theorem kB2_z (b : Bool) : narrow .boolean (.int (kB2 b)) = .int (kB2 b) := by cases b <;> rfl
theorem kB2_fit (b : Bool) : kFit .boolean (.int (kB2 b)) := by cases b <;> first | exact kFit_b0 | exact kFit_b1
/-- a boolean answer that is a number -/
def kRz (v : Int32) : Option Bool := if v = 0 then some false else if v = 1 then some true else none
theorem kRz_some {v : Int32} {b : Bool} (h : kRz v = some b) : v = kB2 b := by
  unfold kRz at h
  by_cases c : v = 0
  · rw [if_pos c] at h; cases h; exact c
  · rw [if_neg c] at h
    by_cases d : v = 1
    · rw [if_pos d] at h; cases h; exact d
    · rw [if_neg d] at h; cases h
def kRc (v : Int32) : Option Int32 := if narrow .char (.int v) = .int v then some v else none
theorem kRc_some {v r : Int32} (h : kRc v = some r) : v = r ∧ narrow .char (.int r) = .int r := by
  unfold kRc at h
  by_cases c : narrow .char (.int v) = .int v
  · rw [if_pos c] at h; cases h; exact ⟨rfl, c⟩
  · rw [if_neg c] at h; cases h
def kFz {α : Type} (v : Int32) (k : Option α) : Option α := if v = 0 ∨ v = 1 then k else none
theorem kFz_some {α : Type} {v : Int32} {k : Option α} {r : α} (h : kFz v k = some r) : kFit .boolean (.int v) ∧ k = some r := by
  unfold kFz at h
  by_cases c : v = 0 ∨ v = 1
  · rw [if_pos c] at h
    rcases c with rfl | rfl
    · exact ⟨kFit_b0, h⟩
    · exact ⟨kFit_b1, h⟩
  · rw [if_neg c] at h; cases h
theorem kne {x k : Int32} (n : Int) (h : ¬ x = k) (hk : k.toInt = n) : x.toInt ≠ n := fun e => h (Int32.toInt_inj.mp (e.trans hk.symm))
def kHigh (j : Nat) : Int32 := match j with
  | 0 => 100
  | 1 => 100
  | 2 => 600
  | 3 => 6
  | _ => 1
def kFirst (j : Nat) : Int32 := match j with
  | 0 => 50
  | 1 => 34
  | 2 => 240
  | 3 => 2
  | _ => 1
def kRo (E : kE) (L : Nat) (xs : Nat → Int32) : Prop := (∀ j, j < 6 → (E.2.2.2 0).2.2 j = kFirst j) ∧ (E.2.2.2 0).2.1 = 6 ∧ (∀ j, j < 6 → (E.2.2.2 1).2.2 j = kHigh j) ∧ (E.2.2.2 1).2.1 = 6 ∧ (E.2.2.2 2).2 = (L, xs)
section ROWS
variable {E : kE} {M : kM} {r : Option Int32} {g' : List kC} {fc fs pc : Nat} {lv : kLv} {st : List Value} {g : List kC} {h : kH}
theorem kM_high (pc' : Nat) {L : Nat} {xs : Nat → Int32} {i : Int32} (hro : kRo E L xs) (hd : decode (kB M) pc = .ok (.iaload, 1)) (hin : vp_in i 6) (hp : pc + 1 = pc') (kk : kJ E M r g' fc fs pc' lv (.int (kHigh (kx i)) :: st) g) : kJ E M r g' fc fs pc lv (.int i :: .retAddr 1 :: st) g :=
  kJ_rald pc' hd (by decide) (by rw [hro.2.2.2.1]; exact hin) hp (by rw [hro.2.2.1 _ (kIn_lt hin)]; exact kk)
theorem kM_scr (pc' : Nat) {L : Nat} {xs : Nat → Int32} {i : Int32} (hro : kRo E L xs) (hd : decode (kB M) pc = .ok (.iaload, 1)) (hin : vp_in i L) (hp : pc + 1 = pc') (kk : kJ E M r g' fc fs pc' lv (.int (xs (kx i)) :: st) g) : kJ E M r g' fc fs pc lv (.int i :: .retAddr 2 :: st) g :=
  kJ_rald pc' hd (by decide) (by rw [hro.2.2.2.2]; exact hin) hp (by rw [hro.2.2.2.2]; exact kk)
theorem kM_scrl (pc' : Nat) {L : Nat} {xs : Nat → Int32} (hro : kRo E L xs) (hd : decode (kB M) pc = .ok (.arraylength, 1)) (hp : pc + 1 = pc') (kk : kJ E M r g' fc fs pc' lv (.int (Int32.ofNat L) :: st) g) : kJ E M r g' fc fs pc lv (.retAddr 2 :: st) g :=
  kJ_ralen pc' hd (by decide) hp (by rw [hro.2.2.2.2]; exact kk)
theorem kJ_sub {lv' : kLv} (ks : List Nat) (hk : lv_pick lv ks = lv') (kk : kJ E M r g' fc fs pc lv' st g) : kJ E M r g' fc fs pc lv st g := by
  subst hk
  intro p l e s m args below meth c hF R hR PQ hEx H locs ls hl hW hS
  refine kk p l e s m args below meth c hF R hR PQ hEx H locs ls ?_ hW hS
  refine lv_sub hl ks ?_
  simp [lv_pick, kTl, List.filterMap_map, List.map_filterMap, List.getElem?_map]
theorem kM_callv (pc' : Nat) (N : kM) (as : List Value) (st' : List Value) {ix n a κ : Nat} {r1 : Option Int32} {h1 : kH} (hd : decode (kB M) pc = .ok (.invokevirtual ix, 3)) (hc : kCall (kY M).cls ix N n) (hv : Cond.instanceMethod (kY N) ∈ kWG ∧ Cond.selects (kY N).cls (kY N) (kY N) ∈ kWG) (hk : kIs a κ) (hκ : (kSh κ).1 = κ ∧ κ < 10) (hci : ∃ T k, kCl[κ]? = some ((kY N).cls, T, k)) (hst : st = as.reverse ++ .ref a :: st') (hn : as.length = n) (hcat : (st'.map fun v => v.category).sum ≤ 8) (hrm : kRoom M N) (hz : kMC N = 0 ∧ kMS N = 0) (hf : fc ≤ kMC M ∧ fs ≤ kMS M) (hJ : JM E N (.ref a :: as) (mk h) r1 (mk h1)) (hp : pc + 3 = pc') (kk : kJ E M r g' fc fs pc' lv ((r1.map Value.int).toList ++ st') (mk h1)) : kJ E M r g' fc fs pc lv st (mk h) := by
  have e : kCell h a κ = (κ, (kCell h a κ).2) := Prod.ext hκ.1 rfl
  exact kJ_callv pc' N as st' (ws := (kCell h a κ).2) hd hc hv ((mk_get h hk).trans (congrArg some e)) ⟨hκ.2, hci⟩ hst hn hcat hrm (by rw [hz.1, hz.2]; exact hf) hJ hp (by rw [hz.1, hz.2]; exact kk)
theorem kM_calls (pc' : Nat) (N : kM) (as : List Value) (st' : List Value) {ix n : Nat} {r1 : Option Int32} {h1 : kH} (hd : decode (kB M) pc = .ok (.invokestatic ix, 3)) (hc : kCall (kY M).cls ix N n) (hv : Cond.static (kY N) ∈ kWG) (hst : st = as.reverse ++ st') (hn : as.length = n) (hcat : (st'.map fun v => v.category).sum ≤ 8) (hrm : kRoom M N) (hz : kMC N = 0 ∧ kMS N = 0) (hf : fc ≤ kMC M ∧ fs ≤ kMS M) (hJ : JM E N as (mk h) r1 (mk h1)) (hp : pc + 3 = pc') (kk : kJ E M r g' fc fs pc' lv ((r1.map Value.int).toList ++ st') (mk h1)) : kJ E M r g' fc fs pc lv st (mk h) :=
  kJ_calls pc' N as st' hd hc hv hst hn hcat hrm (by rw [hz.1, hz.2]; exact hf) hJ hp (by rw [hz.1, hz.2]; exact kk)
end ROWS
end
