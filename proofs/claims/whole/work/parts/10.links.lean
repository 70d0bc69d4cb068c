/-! METHODS, words, links: printed by wip/whole/emit.py out of the claim's printed texts. -/
def m_V_init : kM := (⟨"ProxyVotes$Movements", "<init>", "()V"⟩, prog_6_method_1_code, 1, none, 1, 3, 60, 12)
def m_I_init : kM := (⟨"ProxyVotes$Item", "<init>", "()V"⟩, prog_5_method_1_code, 1, none, 1, 4, 42, 12)
def m_C_init : kM := (⟨"ProxyVotes$Committee", "<init>", "()V"⟩, prog_2_method_1_code, 2, none, 2, 69, 742, 32)
def m_H_init : kM := (⟨"ProxyVotes$Hearing", "<init>", "()V"⟩, prog_3_method_1_code, 1, none, 1, 3, 30, 12)
def m_Y_init : kM := (⟨"ProxyVotes$History", "<init>", "()V"⟩, prog_4_method_1_code, 2, none, 3, 491, 5278, 53)
def m_D_init : kM := (⟨"ProxyVotes$Pad", "<init>", "()V"⟩, prog_7_method_1_code, 1, none, 1, 4, 320, 12)
def m_P_init : kM := (⟨"ProxyVotes", "<init>", "()V"⟩, prog_1_method_1_code, 2, none, 4, 785, 8778, 74)
def m_I_copyFrom : kM := (⟨"ProxyVotes$Item", "copyFrom", "(LProxyVotes$Item;)V"⟩, prog_5_method_3_code, 2, none, 1, 0, 0, 32)
def m_V_copyFrom : kM := (⟨"ProxyVotes$Movements", "copyFrom", "(LProxyVotes$Movements;)V"⟩, prog_6_method_5_code, 2, none, 1, 0, 0, 32)
def m_C_copyFrom : kM := (⟨"ProxyVotes$Committee", "copyFrom", "(LProxyVotes$Committee;)V"⟩, prog_2_method_2_code, 3, none, 2, 0, 0, 53)
def m_Y_note : kM := (⟨"ProxyVotes$History", "note", "(LProxyVotes$Committee;)V"⟩, prog_4_method_2_code, 2, none, 3, 0, 0, 75)
def m_C_changeSetting : kM := (⟨"ProxyVotes$Committee", "changeSetting", "(II)I"⟩, prog_2_method_16_code, 4, some .int, 0, 0, 0, 0)
def m_P_isError : kM := (⟨"ProxyVotes", "isError", "(I)Z"⟩, prog_1_method_41_code, 1, some .boolean, 0, 0, 0, 0)
def m_JM_min : kM := (⟨"java/lang/Math", "min", "(II)I"⟩, prog_11_method_69_code, 2, some .int, 0, 0, 0, 0)
def m_Y_settle : kM := (⟨"ProxyVotes$History", "settle", "(I)I"⟩, prog_4_method_3_code, 2, some .int, 1, 0, 0, 21)
def m_P_set : kM := (⟨"ProxyVotes", "set", "(II)I"⟩, prog_1_method_2_code, 3, some .int, 4, 0, 0, 96)
def m_C_addMember : kM := (⟨"ProxyVotes$Committee", "addMember", "(II)I"⟩, prog_2_method_17_code, 3, some .int, 0, 0, 0, 0)
def m_P_member : kM := (⟨"ProxyVotes", "member", "(II)I"⟩, prog_1_method_3_code, 3, some .int, 4, 0, 0, 96)
def m_JA_fill : kM := (⟨"java/util/Arrays", "fill", "([II)V"⟩, prog_13_method_103_code, 4, none, 0, 0, 0, 0)
def m_I_begin : kM := (⟨"ProxyVotes$Item", "begin", "(II)V"⟩, prog_5_method_2_code, 3, none, 1, 0, 0, 23)
def m_C_addItem : kM := (⟨"ProxyVotes$Committee", "addItem", "(II)I"⟩, prog_2_method_18_code, 3, some .int, 2, 0, 0, 45)
def m_P_item : kM := (⟨"ProxyVotes", "item", "(II)I"⟩, prog_1_method_4_code, 3, some .int, 4, 0, 0, 96)
def m_C_hasMember : kM := (⟨"ProxyVotes$Committee", "hasMember", "(I)Z"⟩, prog_2_method_3_code, 2, some .boolean, 0, 0, 0, 0)
def m_C_nameChair : kM := (⟨"ProxyVotes$Committee", "nameChair", "(I)I"⟩, prog_2_method_19_code, 3, some .int, 1, 0, 0, 21)
def m_P_chair : kM := (⟨"ProxyVotes", "chair", "(I)I"⟩, prog_1_method_5_code, 2, some .int, 4, 0, 0, 96)
def m_C_isPresent : kM := (⟨"ProxyVotes$Committee", "isPresent", "(I)Z"⟩, prog_2_method_5_code, 2, some .boolean, 0, 0, 0, 0)
def m_JI_bitCount : kM := (⟨"java/lang/Integer", "bitCount", "(I)I"⟩, prog_10_method_49_code, 1, some .int, 0, 0, 0, 0)
def m_C_bringIn : kM := (⟨"ProxyVotes$Committee", "bringIn", "(I)I"⟩, prog_2_method_20_code, 2, some .int, 1, 0, 0, 21)
def m_P_come : kM := (⟨"ProxyVotes", "come", "(I)I"⟩, prog_1_method_6_code, 2, some .int, 4, 0, 0, 96)
def m_C_sendAway : kM := (⟨"ProxyVotes$Committee", "sendAway", "(I)I"⟩, prog_2_method_21_code, 2, some .int, 1, 0, 0, 21)
def m_P_go : kM := (⟨"ProxyVotes", "go", "(I)I"⟩, prog_1_method_7_code, 2, some .int, 4, 0, 0, 96)
def m_V_append : kM := (⟨"ProxyVotes$Movements", "append", "(III)V"⟩, prog_6_method_2_code, 4, none, 0, 0, 0, 0)
def m_C_addMovement : kM := (⟨"ProxyVotes$Committee", "addMovement", "(III)I"⟩, prog_2_method_22_code, 4, some .int, 1, 0, 0, 23)
def m_P_later : kM := (⟨"ProxyVotes", "later", "(III)I"⟩, prog_1_method_8_code, 4, some .int, 4, 0, 0, 96)
def m_C_hasItem : kM := (⟨"ProxyVotes$Committee", "hasItem", "(I)Z"⟩, prog_2_method_4_code, 2, some .boolean, 0, 0, 0, 0)
def m_C_nameHolder : kM := (⟨"ProxyVotes$Committee", "nameHolder", "(III)I"⟩, prog_2_method_23_code, 9, some .int, 1, 0, 0, 21)
def m_P_proxy : kM := (⟨"ProxyVotes", "proxy", "(III)I"⟩, prog_1_method_9_code, 4, some .int, 4, 0, 0, 96)
def m_P_isChoice : kM := (⟨"ProxyVotes", "isChoice", "(I)Z"⟩, prog_1_method_42_code, 1, some .boolean, 0, 0, 0, 0)
def m_I_isPending : kM := (⟨"ProxyVotes$Item", "isPending", "()Z"⟩, prog_5_method_4_code, 1, some .boolean, 0, 0, 0, 0)
def m_C_tellChoice : kM := (⟨"ProxyVotes$Committee", "tellChoice", "(III)I"⟩, prog_2_method_24_code, 5, some .int, 1, 0, 0, 21)
def m_P_tell : kM := (⟨"ProxyVotes", "tell", "(III)I"⟩, prog_1_method_10_code, 4, some .int, 4, 0, 0, 96)
def m_C_isRecused : kM := (⟨"ProxyVotes$Committee", "isRecused", "(ILProxyVotes$Item;)Z"⟩, prog_2_method_6_code, 3, some .boolean, 0, 0, 0, 0)
def m_C_recuseByHand : kM := (⟨"ProxyVotes$Committee", "recuseByHand", "(III)I"⟩, prog_2_method_25_code, 5, some .int, 1, 0, 0, 22)
def m_P_recuse : kM := (⟨"ProxyVotes", "recuse", "(III)I"⟩, prog_1_method_11_code, 4, some .int, 4, 0, 0, 96)
def m_C_holderFor : kM := (⟨"ProxyVotes$Committee", "holderFor", "(ILProxyVotes$Item;)I"⟩, prog_2_method_8_code, 3, some .int, 0, 0, 0, 0)
def m_H_endOfWay : kM := (⟨"ProxyVotes$Hearing", "endOfWay", "(LProxyVotes$Committee;LProxyVotes$Item;I)I"⟩, prog_3_method_4_code, 7, some .int, 1, 0, 0, 22)
def m_H_takenUp : kM := (⟨"ProxyVotes$Hearing", "takenUp", "(LProxyVotes$Committee;LProxyVotes$Item;I)I"⟩, prog_3_method_3_code, 5, some .int, 2, 0, 0, 48)
def m_H_listen : kM := (⟨"ProxyVotes$Hearing", "listen", "(LProxyVotes$Committee;LProxyVotes$Item;)V"⟩, prog_3_method_2_code, 4, none, 3, 0, 0, 72)
def m_H_weightThere : kM := (⟨"ProxyVotes$Hearing", "weightThere", "(LProxyVotes$Committee;)I"⟩, prog_3_method_6_code, 4, some .int, 1, 0, 0, 21)
def m_C_firstIn : kM := (⟨"ProxyVotes$Committee", "firstIn", "(I)I"⟩, prog_2_method_12_code, 3, some .int, 0, 0, 0, 0)
def m_C_weightOfAll : kM := (⟨"ProxyVotes$Committee", "weightOfAll", "()I"⟩, prog_2_method_9_code, 3, some .int, 0, 0, 0, 0)
def m_C_isQuorum : kM := (⟨"ProxyVotes$Committee", "isQuorum", "(I)Z"⟩, prog_2_method_10_code, 3, some .boolean, 1, 0, 0, 22)
def m_C_openItem : kM := (⟨"ProxyVotes$Committee", "openItem", "(ILProxyVotes$Hearing;)I"⟩, prog_2_method_26_code, 5, some .int, 4, 0, 0, 95)
def m_P_open : kM := (⟨"ProxyVotes", "open", "(I)I"⟩, prog_1_method_12_code, 2, some .int, 5, 0, 0, 119)
def m_C_canVote : kM := (⟨"ProxyVotes$Committee", "canVote", "(ILProxyVotes$Item;)Z"⟩, prog_2_method_7_code, 3, some .boolean, 1, 0, 0, 22)
def m_C_giveVote : kM := (⟨"ProxyVotes$Committee", "giveVote", "(II)I"⟩, prog_2_method_27_code, 5, some .int, 2, 0, 0, 44)
def m_P_vote : kM := (⟨"ProxyVotes", "vote", "(II)I"⟩, prog_1_method_13_code, 3, some .int, 4, 0, 0, 96)
def m_H_wayOf : kM := (⟨"ProxyVotes$Hearing", "wayOf", "(LProxyVotes$Committee;LProxyVotes$Item;I)I"⟩, prog_3_method_7_code, 5, some .int, 1, 0, 0, 22)
def m_H_tally : kM := (⟨"ProxyVotes$Hearing", "tally", "(LProxyVotes$Committee;LProxyVotes$Item;)V"⟩, prog_3_method_8_code, 4, none, 2, 0, 0, 46)
def m_H_outcome : kM := (⟨"ProxyVotes$Hearing", "outcome", "(LProxyVotes$Committee;LProxyVotes$Item;I)I"⟩, prog_3_method_9_code, 6, some .int, 0, 0, 0, 0)
def m_I_putOff : kM := (⟨"ProxyVotes$Item", "putOff", "()V"⟩, prog_5_method_5_code, 1, none, 1, 0, 0, 23)
def m_C_closeItem : kM := (⟨"ProxyVotes$Committee", "closeItem", "(LProxyVotes$Hearing;)I"⟩, prog_2_method_28_code, 4, some .int, 4, 0, 0, 95)
def m_P_close : kM := (⟨"ProxyVotes", "close", "()I"⟩, prog_1_method_14_code, 1, some .int, 5, 0, 0, 118)
def m_C_chairOfTheMoment : kM := (⟨"ProxyVotes$Committee", "chairOfTheMoment", "()I"⟩, prog_2_method_11_code, 2, some .int, 1, 0, 0, 21)
def m_C_breakTie : kM := (⟨"ProxyVotes$Committee", "breakTie", "(I)I"⟩, prog_2_method_29_code, 4, some .int, 2, 0, 0, 42)
def m_P_cast : kM := (⟨"ProxyVotes", "cast", "(I)I"⟩, prog_1_method_15_code, 2, some .int, 4, 0, 0, 96)
def m_V_next : kM := (⟨"ProxyVotes$Movements", "next", "()I"⟩, prog_6_method_3_code, 3, some .int, 0, 0, 0, 0)
def m_V_drop : kM := (⟨"ProxyVotes$Movements", "drop", "(I)V"⟩, prog_6_method_4_code, 3, none, 1, 0, 0, 32)
def m_C_moveTo : kM := (⟨"ProxyVotes$Committee", "moveTo", "(I)V"⟩, prog_2_method_31_code, 5, none, 2, 0, 0, 54)
def m_C_letPass : kM := (⟨"ProxyVotes$Committee", "letPass", "(I)I"⟩, prog_2_method_30_code, 2, some .int, 3, 0, 0, 78)
def m_P_pass : kM := (⟨"ProxyVotes", "pass", "(I)I"⟩, prog_1_method_16_code, 2, some .int, 4, 0, 0, 99)
def m_C_votesOf : kM := (⟨"ProxyVotes$Committee", "votesOf", "(I)I"⟩, prog_2_method_14_code, 4, some .int, 0, 0, 0, 0)
def m_C_tiesBrokenBy : kM := (⟨"ProxyVotes$Committee", "tiesBrokenBy", "(I)I"⟩, prog_2_method_15_code, 4, some .int, 0, 0, 0, 0)
def m_P_ofMember : kM := (⟨"ProxyVotes", "ofMember", "(II)I"⟩, prog_1_method_17_code, 3, some .int, 1, 0, 0, 23)
def m_P_sumOf : kM := (⟨"ProxyVotes", "sumOf", "(LProxyVotes$Item;I)I"⟩, prog_1_method_21_code, 3, some .int, 4, 0, 0, 95)
def m_P_ofItem : kM := (⟨"ProxyVotes", "ofItem", "(II)I"⟩, prog_1_method_18_code, 4, some .int, 5, 0, 0, 117)
def m_H_spokenForBy : kM := (⟨"ProxyVotes$Hearing", "spokenForBy", "(LProxyVotes$Committee;I)I"⟩, prog_3_method_5_code, 5, some .int, 1, 0, 0, 21)
def m_P_at : kM := (⟨"ProxyVotes", "at", "(III)I"⟩, prog_1_method_19_code, 5, some .int, 4, 0, 0, 95)
def m_C_itemsIn : kM := (⟨"ProxyVotes$Committee", "itemsIn", "(I)I"⟩, prog_2_method_13_code, 4, some .int, 0, 0, 0, 0)
def m_P_count : kM := (⟨"ProxyVotes", "count", "(I)I"⟩, prog_1_method_20_code, 2, some .int, 2, 0, 0, 42)
def m_P_wouldBe : kM := (⟨"ProxyVotes", "wouldBe", "(I)I"⟩, prog_1_method_22_code, 3, some .int, 4, 0, 0, 95)
def m_P_canTurn : kM := (⟨"ProxyVotes", "canTurn", "(ILProxyVotes$Item;I)Z"⟩, prog_1_method_28_code, 7, some .boolean, 3, 0, 0, 69)
def m_P_decisive : kM := (⟨"ProxyVotes", "decisive", "(I)I"⟩, prog_1_method_23_code, 6, some .int, 4, 0, 0, 95)
def m_P_findGains : kM := (⟨"ProxyVotes", "findGains", "(LProxyVotes$Item;)I"⟩, prog_1_method_29_code, 5, some .int, 4, 0, 0, 95)
def m_P_gainOf : kM := (⟨"ProxyVotes", "gainOf", "(I)I"⟩, prog_1_method_31_code, 4, some .int, 0, 0, 0, 0)
def m_P_fewestToCarry : kM := (⟨"ProxyVotes", "fewestToCarry", "(LProxyVotes$Item;I)I"⟩, prog_1_method_30_code, 7, some .int, 1, 0, 0, 25)
def m_P_needed : kM := (⟨"ProxyVotes", "needed", "(II)I"⟩, prog_1_method_24_code, 5, some .int, 5, 0, 0, 119)
def m_P_countSetsWithout : kM := (⟨"ProxyVotes", "countSetsWithout", "(I)V"⟩, prog_1_method_32_code, 5, none, 1, 0, 0, 23)
def m_P_power : kM := (⟨"ProxyVotes", "power", "(I)I"⟩, prog_1_method_25_code, 6, some .int, 2, 0, 0, 47)
def m_C_nextTurn : kM := (⟨"ProxyVotes$Committee", "nextTurn", "()I"⟩, prog_2_method_32_code, 4, some .int, 1, 0, 0, 22)
def m_P_quorumAt : kM := (⟨"ProxyVotes", "quorumAt", "(I)I"⟩, prog_1_method_26_code, 5, some .int, 4, 0, 0, 95)
def m_P_bestHolder : kM := (⟨"ProxyVotes", "bestHolder", "(II)I"⟩, prog_1_method_27_code, 7, some .int, 4, 0, 0, 95)
def m_D_append : kM := (⟨"ProxyVotes$Pad", "append", "(J)I"⟩, prog_7_method_2_code, 8, some .int, 0, 0, 0, 0)
def m_P_put : kM := (⟨"ProxyVotes", "put", "(J)I"⟩, prog_1_method_33_code, 3, some .int, 1, 0, 0, 27)
def m_D_empty : kM := (⟨"ProxyVotes$Pad", "empty", "()I"⟩, prog_7_method_3_code, 2, some .int, 0, 0, 0, 0)
def m_P_wipe : kM := (⟨"ProxyVotes", "wipe", "()I"⟩, prog_1_method_34_code, 1, some .int, 1, 0, 0, 21)
def m_D_ahead : kM := (⟨"ProxyVotes$Pad", "ahead", "()C"⟩, prog_7_method_9_code, 1, some .char, 0, 0, 0, 0)
def m_D_isSign : kM := (⟨"ProxyVotes$Pad", "isSign", "(C)Z"⟩, prog_7_method_11_code, 1, some .boolean, 0, 0, 0, 0)
def m_D_readMember : kM := (⟨"ProxyVotes$Pad", "readMember", "(I)Z"⟩, prog_7_method_6_code, 3, some .boolean, 1, 0, 0, 20)
def m_D_isDigit : kM := (⟨"ProxyVotes$Pad", "isDigit", "(C)Z"⟩, prog_7_method_10_code, 1, some .boolean, 0, 0, 0, 0)
def m_D_readNumber : kM := (⟨"ProxyVotes$Pad", "readNumber", "(I)Z"⟩, prog_7_method_8_code, 4, some .boolean, 1, 0, 0, 20)
def m_D_readChoice : kM := (⟨"ProxyVotes$Pad", "readChoice", "(IC)Z"⟩, prog_7_method_7_code, 4, some .boolean, 1, 0, 0, 20)
def m_D_readOrder : kM := (⟨"ProxyVotes$Pad", "readOrder", "(I)Z"⟩, prog_7_method_5_code, 3, some .boolean, 2, 0, 0, 43)
def m_D_read : kM := (⟨"ProxyVotes$Pad", "read", "()I"⟩, prog_7_method_4_code, 2, some .int, 3, 0, 0, 65)
def m_P_fault : kM := (⟨"ProxyVotes", "fault", "()I"⟩, prog_1_method_35_code, 1, some .int, 4, 0, 0, 86)
def m_P_carry : kM := (⟨"ProxyVotes", "carry", "(I)I"⟩, prog_1_method_37_code, 4, some .int, 5, 0, 0, 119)
def m_P_carryOut : kM := (⟨"ProxyVotes", "carryOut", "()I"⟩, prog_1_method_36_code, 2, some .int, 6, 0, 0, 142)
def m_Y_takeBack : kM := (⟨"ProxyVotes$History", "takeBack", "(LProxyVotes$Committee;)I"⟩, prog_4_method_4_code, 2, some .int, 3, 0, 0, 75)
def m_P_undo : kM := (⟨"ProxyVotes", "undo", "()I"⟩, prog_1_method_38_code, 1, some .int, 4, 0, 0, 96)
def m_P_save : kM := (⟨"ProxyVotes", "save", "(I)I"⟩, prog_1_method_39_code, 2, some .int, 3, 0, 0, 75)
def m_P_restore : kM := (⟨"ProxyVotes", "restore", "(I)I"⟩, prog_1_method_40_code, 2, some .int, 4, 0, 0, 96)
def m_M_init : kM := (⟨"ProxyVotesModel", "<init>", "()V"⟩, prog_9_method_1_code, 2, none, 1, 10, 7952, 12)
def m_M_in : kM := (⟨"ProxyVotesModel", "in", "(III)Z"⟩, prog_9_method_2_code, 3, some .boolean, 0, 0, 0, 0)
def m_M_record : kM := (⟨"ProxyVotesModel", "record", "()V"⟩, prog_9_method_5_code, 2, none, 0, 0, 0, 0)
def m_M_set : kM := (⟨"ProxyVotesModel", "set", "(II)I"⟩, prog_9_method_8_code, 5, some .int, 1, 0, 0, 22)
def m_M_member : kM := (⟨"ProxyVotesModel", "member", "(II)I"⟩, prog_9_method_9_code, 4, some .int, 1, 0, 0, 22)
def m_M_item : kM := (⟨"ProxyVotesModel", "item", "(II)I"⟩, prog_9_method_10_code, 4, some .int, 1, 0, 0, 22)
def m_M_isMember : kM := (⟨"ProxyVotesModel", "isMember", "(I)Z"⟩, prog_9_method_11_code, 2, some .boolean, 1, 0, 0, 22)
def m_M_chair : kM := (⟨"ProxyVotesModel", "chair", "(I)I"⟩, prog_9_method_16_code, 3, some .int, 2, 0, 0, 43)
def m_M_ofOne : kM := (⟨"ProxyVotesModel", "ofOne", "(II)I"⟩, prog_9_method_13_code, 3, some .int, 0, 0, 0, 0)
def m_M_isPresent : kM := (⟨"ProxyVotesModel", "isPresent", "(I)Z"⟩, prog_9_method_17_code, 2, some .boolean, 1, 0, 0, 22)
def m_M_present : kM := (⟨"ProxyVotesModel", "present", "()I"⟩, prog_9_method_18_code, 3, some .int, 2, 0, 0, 43)
def m_M_bits : kM := (⟨"ProxyVotesModel", "bits", "(I)I"⟩, prog_9_method_4_code, 3, some .int, 0, 0, 0, 0)
def m_M_turnTo : kM := (⟨"ProxyVotesModel", "turnTo", "(II)I"⟩, prog_9_method_19_code, 3, some .int, 3, 0, 0, 65)
def m_M_come : kM := (⟨"ProxyVotesModel", "come", "(I)I"⟩, prog_9_method_20_code, 2, some .int, 4, 0, 0, 87)
def m_M_go : kM := (⟨"ProxyVotesModel", "go", "(I)I"⟩, prog_9_method_21_code, 2, some .int, 4, 0, 0, 87)
def m_M_later : kM := (⟨"ProxyVotesModel", "later", "(III)I"⟩, prog_9_method_22_code, 5, some .int, 2, 0, 0, 43)
def m_M_isItem : kM := (⟨"ProxyVotesModel", "isItem", "(I)Z"⟩, prog_9_method_12_code, 2, some .boolean, 1, 0, 0, 22)
def m_M_proxy : kM := (⟨"ProxyVotesModel", "proxy", "(III)I"⟩, prog_9_method_23_code, 6, some .int, 2, 0, 0, 43)
def m_M_stateOf : kM := (⟨"ProxyVotesModel", "stateOf", "(I)I"⟩, prog_9_method_14_code, 2, some .int, 0, 0, 0, 0)
def m_M_isAhead : kM := (⟨"ProxyVotesModel", "isAhead", "(I)Z"⟩, prog_9_method_24_code, 2, some .boolean, 1, 0, 0, 21)
def m_M_tell : kM := (⟨"ProxyVotesModel", "tell", "(III)I"⟩, prog_9_method_25_code, 6, some .int, 2, 0, 0, 43)
def m_M_has : kM := (⟨"ProxyVotesModel", "has", "(II)Z"⟩, prog_9_method_3_code, 2, some .boolean, 0, 0, 0, 0)
def m_M_isRecused : kM := (⟨"ProxyVotesModel", "isRecused", "(II)Z"⟩, prog_9_method_26_code, 4, some .boolean, 1, 0, 0, 22)
def m_M_recuse : kM := (⟨"ProxyVotesModel", "recuse", "(III)I"⟩, prog_9_method_27_code, 5, some .int, 2, 0, 0, 45)
def m_M_itemIn : kM := (⟨"ProxyVotesModel", "itemIn", "(I)I"⟩, prog_9_method_37_code, 4, some .int, 1, 0, 0, 21)
def m_M_pair : kM := (⟨"ProxyVotesModel", "pair", "(III)I"⟩, prog_9_method_15_code, 4, some .int, 0, 0, 0, 0)
def m_M_holderOf : kM := (⟨"ProxyVotesModel", "holderOf", "(II)I"⟩, prog_9_method_28_code, 3, some .int, 1, 0, 0, 23)
def m_M_endOf : kM := (⟨"ProxyVotesModel", "endOf", "(II)I"⟩, prog_9_method_29_code, 5, some .int, 2, 0, 0, 45)
def m_M_layVoices : kM := (⟨"ProxyVotesModel", "layVoices", "(I)V"⟩, prog_9_method_30_code, 4, none, 3, 0, 0, 69)
def m_M_weightThere : kM := (⟨"ProxyVotesModel", "weightThere", "(I)I"⟩, prog_9_method_34_code, 4, some .int, 4, 0, 0, 92)
def m_M_allWeight : kM := (⟨"ProxyVotesModel", "allWeight", "()I"⟩, prog_9_method_33_code, 3, some .int, 1, 0, 0, 22)
def m_M_isQuorum : kM := (⟨"ProxyVotesModel", "isQuorum", "(I)Z"⟩, prog_9_method_35_code, 3, some .boolean, 5, 0, 0, 115)
def m_M_open : kM := (⟨"ProxyVotesModel", "open", "(I)I"⟩, prog_9_method_38_code, 2, some .int, 6, 0, 0, 137)
def m_M_vote : kM := (⟨"ProxyVotesModel", "vote", "(II)I"⟩, prog_9_method_39_code, 6, some .int, 2, 0, 0, 45)
def m_M_wayOf : kM := (⟨"ProxyVotesModel", "wayOf", "(II)I"⟩, prog_9_method_31_code, 4, some .int, 2, 0, 0, 45)
def m_M_count6 : kM := (⟨"ProxyVotesModel", "count6", "(I)V"⟩, prog_9_method_32_code, 3, none, 4, 0, 0, 92)
def m_M_outcome : kM := (⟨"ProxyVotesModel", "outcome", "(I)I"⟩, prog_9_method_36_code, 4, some .int, 5, 0, 0, 114)
def m_M_close : kM := (⟨"ProxyVotesModel", "close", "()I"⟩, prog_9_method_40_code, 4, some .int, 6, 0, 0, 137)
def m_M_chairNow : kM := (⟨"ProxyVotesModel", "chairNow", "()I"⟩, prog_9_method_41_code, 3, some .int, 2, 0, 0, 43)
def m_M_cast : kM := (⟨"ProxyVotesModel", "cast", "(I)I"⟩, prog_9_method_42_code, 4, some .int, 3, 0, 0, 65)
def m_M_nextMinute : kM := (⟨"ProxyVotesModel", "nextMinute", "()V"⟩, prog_9_method_43_code, 5, none, 0, 0, 0, 0)
def m_M_pass : kM := (⟨"ProxyVotesModel", "pass", "(I)I"⟩, prog_9_method_44_code, 3, some .int, 1, 0, 0, 24)
def m_M_votesOf : kM := (⟨"ProxyVotesModel", "votesOf", "(I)I"⟩, prog_9_method_45_code, 4, some .int, 1, 0, 0, 23)
def m_M_ofMember : kM := (⟨"ProxyVotesModel", "ofMember", "(II)I"⟩, prog_9_method_46_code, 3, some .int, 2, 0, 0, 46)
def m_M_ofItem : kM := (⟨"ProxyVotesModel", "ofItem", "(II)I"⟩, prog_9_method_47_code, 3, some .int, 6, 0, 0, 137)
def m_M_at : kM := (⟨"ProxyVotesModel", "at", "(III)I"⟩, prog_9_method_48_code, 4, some .int, 4, 0, 0, 92)
def m_M_itemsIn : kM := (⟨"ProxyVotesModel", "itemsIn", "(I)I"⟩, prog_9_method_49_code, 4, some .int, 1, 0, 0, 21)
def m_M_count : kM := (⟨"ProxyVotesModel", "count", "(I)I"⟩, prog_9_method_50_code, 2, some .int, 3, 0, 0, 65)
def m_M_wouldBe : kM := (⟨"ProxyVotesModel", "wouldBe", "(I)I"⟩, prog_9_method_51_code, 2, some .int, 6, 0, 0, 137)
def m_M_canVote : kM := (⟨"ProxyVotesModel", "canVote", "(II)Z"⟩, prog_9_method_52_code, 3, some .boolean, 2, 0, 0, 45)
def m_M_decisive : kM := (⟨"ProxyVotesModel", "decisive", "(I)I"⟩, prog_9_method_53_code, 8, some .int, 6, 0, 0, 137)
def m_M_isCarriedBy : kM := (⟨"ProxyVotesModel", "isCarriedBy", "(II)Z"⟩, prog_9_method_54_code, 5, some .boolean, 6, 0, 0, 137)
def m_M_needed : kM := (⟨"ProxyVotesModel", "needed", "(II)I"⟩, prog_9_method_55_code, 7, some .int, 7, 0, 0, 161)
def m_M_power : kM := (⟨"ProxyVotesModel", "power", "(I)I"⟩, prog_9_method_56_code, 7, some .int, 2, 0, 0, 44)
def m_M_keep : kM := (⟨"ProxyVotesModel", "keep", "()V"⟩, prog_9_method_6_code, 2, none, 0, 0, 0, 0)
def m_M_comeBack : kM := (⟨"ProxyVotesModel", "comeBack", "()V"⟩, prog_9_method_7_code, 2, none, 0, 0, 0, 0)
def m_M_quorumAt : kM := (⟨"ProxyVotesModel", "quorumAt", "(I)I"⟩, prog_9_method_57_code, 4, some .int, 6, 0, 0, 137)
def m_M_bestHolder : kM := (⟨"ProxyVotesModel", "bestHolder", "(II)I"⟩, prog_9_method_58_code, 9, some .int, 4, 0, 0, 92)
def m_M_put : kM := (⟨"ProxyVotesModel", "put", "(J)I"⟩, prog_9_method_64_code, 7, some .int, 1, 0, 0, 22)
def m_M_wipe : kM := (⟨"ProxyVotesModel", "wipe", "()I"⟩, prog_9_method_65_code, 2, some .int, 0, 0, 0, 0)
def m_M_sign : kM := (⟨"ProxyVotesModel", "sign", "()I"⟩, prog_9_method_59_code, 1, some .int, 0, 0, 0, 0)
def m_M_one : kM := (⟨"ProxyVotesModel", "one", "(III)I"⟩, prog_9_method_60_code, 5, some .int, 1, 0, 0, 22)
def m_M_number : kM := (⟨"ProxyVotesModel", "number", "()I"⟩, prog_9_method_61_code, 2, some .int, 2, 0, 0, 46)
def m_M_readOne : kM := (⟨"ProxyVotesModel", "readOne", "()V"⟩, prog_9_method_62_code, 3, none, 3, 0, 0, 67)
def m_M_faultOf : kM := (⟨"ProxyVotesModel", "faultOf", "()I"⟩, prog_9_method_63_code, 1, some .int, 4, 0, 0, 89)
def m_M_fault : kM := (⟨"ProxyVotesModel", "fault", "()I"⟩, prog_9_method_66_code, 1, some .int, 5, 0, 0, 109)
def m_M_carry : kM := (⟨"ProxyVotesModel", "carry", "(I)Z"⟩, prog_9_method_67_code, 4, some .boolean, 7, 0, 0, 160)
def m_M_carryOut : kM := (⟨"ProxyVotesModel", "carryOut", "()I"⟩, prog_9_method_68_code, 2, some .int, 8, 0, 0, 183)
def m_M_undo : kM := (⟨"ProxyVotesModel", "undo", "()I"⟩, prog_9_method_69_code, 2, some .int, 0, 0, 0, 0)
def m_M_save : kM := (⟨"ProxyVotesModel", "save", "(I)I"⟩, prog_9_method_70_code, 3, some .int, 1, 0, 0, 22)
def m_M_restore : kM := (⟨"ProxyVotesModel", "restore", "(I)I"⟩, prog_9_method_71_code, 3, some .int, 1, 0, 0, 22)
def m_L_law : kM := (⟨"ProxyVotesLaw", "law", "([I)Z"⟩, code, 4, some .boolean, 11, 600000, 7302250, 408)
theorem pn_C : plainName "ProxyVotes$Committee" = true := by decide +kernel
theorem pn_H : plainName "ProxyVotes$Hearing" = true := by decide +kernel
theorem pn_Y : plainName "ProxyVotes$History" = true := by decide +kernel
theorem pn_I : plainName "ProxyVotes$Item" = true := by decide +kernel
theorem pn_V : plainName "ProxyVotes$Movements" = true := by decide +kernel
theorem pn_D : plainName "ProxyVotes$Pad" = true := by decide +kernel
theorem pn_P : plainName "ProxyVotes" = true := by decide +kernel
theorem pn_M : plainName "ProxyVotesModel" = true := by decide +kernel
theorem pn_L : plainName "ProxyVotesLaw" = true := by decide +kernel
theorem pn_JI : plainName "java/lang/Integer" = true := by decide +kernel
theorem pf_JM_min : plainFor (kY m_JM_min) = true := by decide +kernel
theorem pn_JA : plainName "java/util/Arrays" = true := by decide +kernel
theorem kb_m6 : (Int8.ofInt (-6)).toInt32 = (-6) := by decide
theorem kb_m5 : (Int8.ofInt (-5)).toInt32 = (-5) := by decide
theorem kb_m4 : (Int8.ofInt (-4)).toInt32 = (-4) := by decide
theorem kb_m3 : (Int8.ofInt (-3)).toInt32 = (-3) := by decide
theorem kb_m2 : (Int8.ofInt (-2)).toInt32 = (-2) := by decide
theorem kb_6 : (Int8.ofInt 6).toInt32 = 6 := by decide
theorem kb_7 : (Int8.ofInt 7).toInt32 = 7 := by decide
theorem kb_8 : (Int8.ofInt 8).toInt32 = 8 := by decide
theorem kb_9 : (Int8.ofInt 9).toInt32 = 9 := by decide
theorem kb_10 : (Int8.ofInt 10).toInt32 = 10 := by decide
theorem kb_11 : (Int8.ofInt 11).toInt32 = 11 := by decide
theorem kb_12 : (Int8.ofInt 12).toInt32 = 12 := by decide
theorem kb_13 : (Int8.ofInt 13).toInt32 = 13 := by decide
theorem kb_15 : (Int8.ofInt 15).toInt32 = 15 := by decide
theorem kb_16 : (Int8.ofInt 16).toInt32 = 16 := by decide
theorem kb_20 : (Int8.ofInt 20).toInt32 = 20 := by decide
theorem kb_21 : (Int8.ofInt 21).toInt32 = 21 := by decide
theorem kb_22 : (Int8.ofInt 22).toInt32 = 22 := by decide
theorem kb_31 : (Int8.ofInt 31).toInt32 = 31 := by decide
theorem kb_32 : (Int8.ofInt 32).toInt32 = 32 := by decide
theorem kb_33 : (Int8.ofInt 33).toInt32 = 33 := by decide
theorem kb_34 : (Int8.ofInt 34).toInt32 = 34 := by decide
theorem kb_43 : (Int8.ofInt 43).toInt32 = 43 := by decide
theorem kb_45 : (Int8.ofInt 45).toInt32 = 45 := by decide
theorem kb_48 : (Int8.ofInt 48).toInt32 = 48 := by decide
theorem kb_49 : (Int8.ofInt 49).toInt32 = 49 := by decide
theorem kb_50 : (Int8.ofInt 50).toInt32 = 50 := by decide
theorem kb_57 : (Int8.ofInt 57).toInt32 = 57 := by decide
theorem kb_59 : (Int8.ofInt 59).toInt32 = 59 := by decide
theorem kb_63 : (Int8.ofInt 63).toInt32 = 63 := by decide
theorem kb_65 : (Int8.ofInt 65).toInt32 = 65 := by decide
theorem kb_76 : (Int8.ofInt 76).toInt32 = 76 := by decide
theorem kb_80 : (Int8.ofInt 80).toInt32 = 80 := by decide
theorem kb_99 : (Int8.ofInt 99).toInt32 = 99 := by decide
theorem kb_100 : (Int8.ofInt 100).toInt32 = 100 := by decide
theorem kb_109 : (Int8.ofInt 109).toInt32 = 109 := by decide
theorem kb_111 : (Int8.ofInt 111).toInt32 = 111 := by decide
theorem kb_118 : (Int8.ofInt 118).toInt32 = 118 := by decide
theorem kb_120 : (Int8.ofInt 120).toInt32 = 120 := by decide
theorem kb_126 : (Int8.ofInt 126).toInt32 = 126 := by decide
theorem ki_m1 : Int32.ofInt (-1) = (-1) := by decide
theorem ki_0 : Int32.ofInt 0 = 0 := by decide
theorem ki_1 : Int32.ofInt 1 = 1 := by decide
theorem ki_2 : Int32.ofInt 2 = 2 := by decide
theorem ki_3 : Int32.ofInt 3 = 3 := by decide
theorem ki_4 : Int32.ofInt 4 = 4 := by decide
theorem ki_5 : Int32.ofInt 5 = 5 := by decide
theorem ks_240 : (Int16.ofInt 240).toInt32 = 240 := by decide
theorem ks_250 : (Int16.ofInt 250).toInt32 = 250 := by decide
theorem ks_600 : (Int16.ofInt 600).toInt32 = 600 := by decide
theorem ks_682 : (Int16.ofInt 682).toInt32 = 682 := by decide
theorem ks_690 : (Int16.ofInt 690).toInt32 = 690 := by decide
theorem ks_760 : (Int16.ofInt 760).toInt32 = 760 := by decide
theorem ks_999 : (Int16.ofInt 999).toInt32 = 999 := by decide
theorem ks_1520 : (Int16.ofInt 1520).toInt32 = 1520 := by decide
theorem ks_3800 : (Int16.ofInt 3800).toInt32 = 3800 := by decide
theorem ks_4096 : (Int16.ofInt 4096).toInt32 = 4096 := by decide
theorem ks_4560 : (Int16.ofInt 4560).toInt32 = 4560 := by decide
theorem ks_9000 : (Int16.ofInt 9000).toInt32 = 9000 := by decide
theorem w_0 : Cond.selects "ProxyVotes$History" ⟨"ProxyVotes$History", "note", "(LProxyVotes$Committee;)V"⟩ ⟨"ProxyVotes$History", "note", "(LProxyVotes$Committee;)V"⟩ ∈ kWG := List.mem_filter.mpr ⟨List.mem_of_getElem? (i := 0) (by decide +kernel), rfl⟩
theorem w_1 : Cond.selects "ProxyVotes$Committee" ⟨"ProxyVotes$Committee", "copyFrom", "(LProxyVotes$Committee;)V"⟩ ⟨"ProxyVotes$Committee", "copyFrom", "(LProxyVotes$Committee;)V"⟩ ∈ kWG := List.mem_filter.mpr ⟨List.mem_of_getElem? (i := 1) (by decide +kernel), rfl⟩
theorem w_2 : Cond.selects "ProxyVotes$Item" ⟨"ProxyVotes$Item", "copyFrom", "(LProxyVotes$Item;)V"⟩ ⟨"ProxyVotes$Item", "copyFrom", "(LProxyVotes$Item;)V"⟩ ∈ kWG := List.mem_filter.mpr ⟨List.mem_of_getElem? (i := 2) (by decide +kernel), rfl⟩
theorem w_3 : Cond.selects "ProxyVotes$Movements" ⟨"ProxyVotes$Movements", "copyFrom", "(LProxyVotes$Movements;)V"⟩ ⟨"ProxyVotes$Movements", "copyFrom", "(LProxyVotes$Movements;)V"⟩ ∈ kWG := List.mem_filter.mpr ⟨List.mem_of_getElem? (i := 3) (by decide +kernel), rfl⟩
theorem w_4 : Cond.selects "ProxyVotes$Committee" ⟨"ProxyVotes$Committee", "changeSetting", "(II)I"⟩ ⟨"ProxyVotes$Committee", "changeSetting", "(II)I"⟩ ∈ kWG := List.mem_filter.mpr ⟨List.mem_of_getElem? (i := 4) (by decide +kernel), rfl⟩
theorem w_5 : Cond.selects "ProxyVotes$History" ⟨"ProxyVotes$History", "settle", "(I)I"⟩ ⟨"ProxyVotes$History", "settle", "(I)I"⟩ ∈ kWG := List.mem_filter.mpr ⟨List.mem_of_getElem? (i := 5) (by decide +kernel), rfl⟩
theorem w_6 : Cond.selects "ProxyVotes$Committee" ⟨"ProxyVotes$Committee", "addMember", "(II)I"⟩ ⟨"ProxyVotes$Committee", "addMember", "(II)I"⟩ ∈ kWG := List.mem_filter.mpr ⟨List.mem_of_getElem? (i := 6) (by decide +kernel), rfl⟩
theorem w_7 : Cond.selects "ProxyVotes$Committee" ⟨"ProxyVotes$Committee", "addItem", "(II)I"⟩ ⟨"ProxyVotes$Committee", "addItem", "(II)I"⟩ ∈ kWG := List.mem_filter.mpr ⟨List.mem_of_getElem? (i := 7) (by decide +kernel), rfl⟩
theorem w_8 : Cond.selects "ProxyVotes$Item" ⟨"ProxyVotes$Item", "begin", "(II)V"⟩ ⟨"ProxyVotes$Item", "begin", "(II)V"⟩ ∈ kWG := List.mem_filter.mpr ⟨List.mem_of_getElem? (i := 8) (by decide +kernel), rfl⟩
theorem w_9 : Cond.selects "ProxyVotes$Committee" ⟨"ProxyVotes$Committee", "nameChair", "(I)I"⟩ ⟨"ProxyVotes$Committee", "nameChair", "(I)I"⟩ ∈ kWG := List.mem_filter.mpr ⟨List.mem_of_getElem? (i := 9) (by decide +kernel), rfl⟩
theorem w_10 : Cond.selects "ProxyVotes$Committee" ⟨"ProxyVotes$Committee", "hasMember", "(I)Z"⟩ ⟨"ProxyVotes$Committee", "hasMember", "(I)Z"⟩ ∈ kWG := List.mem_filter.mpr ⟨List.mem_of_getElem? (i := 10) (by decide +kernel), rfl⟩
theorem w_11 : Cond.selects "ProxyVotes$Committee" ⟨"ProxyVotes$Committee", "bringIn", "(I)I"⟩ ⟨"ProxyVotes$Committee", "bringIn", "(I)I"⟩ ∈ kWG := List.mem_filter.mpr ⟨List.mem_of_getElem? (i := 11) (by decide +kernel), rfl⟩
theorem w_12 : Cond.selects "ProxyVotes$Committee" ⟨"ProxyVotes$Committee", "isPresent", "(I)Z"⟩ ⟨"ProxyVotes$Committee", "isPresent", "(I)Z"⟩ ∈ kWG := List.mem_filter.mpr ⟨List.mem_of_getElem? (i := 12) (by decide +kernel), rfl⟩
theorem w_13 : Cond.selects "ProxyVotes$Committee" ⟨"ProxyVotes$Committee", "sendAway", "(I)I"⟩ ⟨"ProxyVotes$Committee", "sendAway", "(I)I"⟩ ∈ kWG := List.mem_filter.mpr ⟨List.mem_of_getElem? (i := 13) (by decide +kernel), rfl⟩
theorem w_14 : Cond.selects "ProxyVotes$Committee" ⟨"ProxyVotes$Committee", "addMovement", "(III)I"⟩ ⟨"ProxyVotes$Committee", "addMovement", "(III)I"⟩ ∈ kWG := List.mem_filter.mpr ⟨List.mem_of_getElem? (i := 14) (by decide +kernel), rfl⟩
theorem w_15 : Cond.selects "ProxyVotes$Movements" ⟨"ProxyVotes$Movements", "append", "(III)V"⟩ ⟨"ProxyVotes$Movements", "append", "(III)V"⟩ ∈ kWG := List.mem_filter.mpr ⟨List.mem_of_getElem? (i := 15) (by decide +kernel), rfl⟩
theorem w_16 : Cond.selects "ProxyVotes$Committee" ⟨"ProxyVotes$Committee", "nameHolder", "(III)I"⟩ ⟨"ProxyVotes$Committee", "nameHolder", "(III)I"⟩ ∈ kWG := List.mem_filter.mpr ⟨List.mem_of_getElem? (i := 16) (by decide +kernel), rfl⟩
theorem w_17 : Cond.selects "ProxyVotes$Committee" ⟨"ProxyVotes$Committee", "hasItem", "(I)Z"⟩ ⟨"ProxyVotes$Committee", "hasItem", "(I)Z"⟩ ∈ kWG := List.mem_filter.mpr ⟨List.mem_of_getElem? (i := 17) (by decide +kernel), rfl⟩
theorem w_18 : Cond.selects "ProxyVotes$Committee" ⟨"ProxyVotes$Committee", "tellChoice", "(III)I"⟩ ⟨"ProxyVotes$Committee", "tellChoice", "(III)I"⟩ ∈ kWG := List.mem_filter.mpr ⟨List.mem_of_getElem? (i := 18) (by decide +kernel), rfl⟩
theorem w_19 : Cond.selects "ProxyVotes$Item" ⟨"ProxyVotes$Item", "isPending", "()Z"⟩ ⟨"ProxyVotes$Item", "isPending", "()Z"⟩ ∈ kWG := List.mem_filter.mpr ⟨List.mem_of_getElem? (i := 19) (by decide +kernel), rfl⟩
theorem w_20 : Cond.selects "ProxyVotes$Committee" ⟨"ProxyVotes$Committee", "recuseByHand", "(III)I"⟩ ⟨"ProxyVotes$Committee", "recuseByHand", "(III)I"⟩ ∈ kWG := List.mem_filter.mpr ⟨List.mem_of_getElem? (i := 20) (by decide +kernel), rfl⟩
theorem w_21 : Cond.selects "ProxyVotes$Committee" ⟨"ProxyVotes$Committee", "isRecused", "(ILProxyVotes$Item;)Z"⟩ ⟨"ProxyVotes$Committee", "isRecused", "(ILProxyVotes$Item;)Z"⟩ ∈ kWG := List.mem_filter.mpr ⟨List.mem_of_getElem? (i := 21) (by decide +kernel), rfl⟩
theorem w_22 : Cond.selects "ProxyVotes$Committee" ⟨"ProxyVotes$Committee", "openItem", "(ILProxyVotes$Hearing;)I"⟩ ⟨"ProxyVotes$Committee", "openItem", "(ILProxyVotes$Hearing;)I"⟩ ∈ kWG := List.mem_filter.mpr ⟨List.mem_of_getElem? (i := 22) (by decide +kernel), rfl⟩
theorem w_23 : Cond.selects "ProxyVotes$Hearing" ⟨"ProxyVotes$Hearing", "listen", "(LProxyVotes$Committee;LProxyVotes$Item;)V"⟩ ⟨"ProxyVotes$Hearing", "listen", "(LProxyVotes$Committee;LProxyVotes$Item;)V"⟩ ∈ kWG := List.mem_filter.mpr ⟨List.mem_of_getElem? (i := 23) (by decide +kernel), rfl⟩
theorem w_24 : Cond.selects "ProxyVotes$Hearing" ⟨"ProxyVotes$Hearing", "takenUp", "(LProxyVotes$Committee;LProxyVotes$Item;I)I"⟩ ⟨"ProxyVotes$Hearing", "takenUp", "(LProxyVotes$Committee;LProxyVotes$Item;I)I"⟩ ∈ kWG := List.mem_filter.mpr ⟨List.mem_of_getElem? (i := 24) (by decide +kernel), rfl⟩
theorem w_25 : Cond.selects "ProxyVotes$Hearing" ⟨"ProxyVotes$Hearing", "endOfWay", "(LProxyVotes$Committee;LProxyVotes$Item;I)I"⟩ ⟨"ProxyVotes$Hearing", "endOfWay", "(LProxyVotes$Committee;LProxyVotes$Item;I)I"⟩ ∈ kWG := List.mem_filter.mpr ⟨List.mem_of_getElem? (i := 25) (by decide +kernel), rfl⟩
theorem w_26 : Cond.selects "ProxyVotes$Committee" ⟨"ProxyVotes$Committee", "holderFor", "(ILProxyVotes$Item;)I"⟩ ⟨"ProxyVotes$Committee", "holderFor", "(ILProxyVotes$Item;)I"⟩ ∈ kWG := List.mem_filter.mpr ⟨List.mem_of_getElem? (i := 26) (by decide +kernel), rfl⟩
theorem w_27 : Cond.selects "ProxyVotes$Hearing" ⟨"ProxyVotes$Hearing", "weightThere", "(LProxyVotes$Committee;)I"⟩ ⟨"ProxyVotes$Hearing", "weightThere", "(LProxyVotes$Committee;)I"⟩ ∈ kWG := List.mem_filter.mpr ⟨List.mem_of_getElem? (i := 27) (by decide +kernel), rfl⟩
theorem w_28 : Cond.selects "ProxyVotes$Committee" ⟨"ProxyVotes$Committee", "firstIn", "(I)I"⟩ ⟨"ProxyVotes$Committee", "firstIn", "(I)I"⟩ ∈ kWG := List.mem_filter.mpr ⟨List.mem_of_getElem? (i := 28) (by decide +kernel), rfl⟩
theorem w_29 : Cond.selects "ProxyVotes$Committee" ⟨"ProxyVotes$Committee", "isQuorum", "(I)Z"⟩ ⟨"ProxyVotes$Committee", "isQuorum", "(I)Z"⟩ ∈ kWG := List.mem_filter.mpr ⟨List.mem_of_getElem? (i := 29) (by decide +kernel), rfl⟩
theorem w_30 : Cond.selects "ProxyVotes$Committee" ⟨"ProxyVotes$Committee", "weightOfAll", "()I"⟩ ⟨"ProxyVotes$Committee", "weightOfAll", "()I"⟩ ∈ kWG := List.mem_filter.mpr ⟨List.mem_of_getElem? (i := 30) (by decide +kernel), rfl⟩
theorem w_31 : Cond.selects "ProxyVotes$Committee" ⟨"ProxyVotes$Committee", "giveVote", "(II)I"⟩ ⟨"ProxyVotes$Committee", "giveVote", "(II)I"⟩ ∈ kWG := List.mem_filter.mpr ⟨List.mem_of_getElem? (i := 31) (by decide +kernel), rfl⟩
theorem w_32 : Cond.selects "ProxyVotes$Committee" ⟨"ProxyVotes$Committee", "canVote", "(ILProxyVotes$Item;)Z"⟩ ⟨"ProxyVotes$Committee", "canVote", "(ILProxyVotes$Item;)Z"⟩ ∈ kWG := List.mem_filter.mpr ⟨List.mem_of_getElem? (i := 32) (by decide +kernel), rfl⟩
theorem w_33 : Cond.selects "ProxyVotes$Committee" ⟨"ProxyVotes$Committee", "closeItem", "(LProxyVotes$Hearing;)I"⟩ ⟨"ProxyVotes$Committee", "closeItem", "(LProxyVotes$Hearing;)I"⟩ ∈ kWG := List.mem_filter.mpr ⟨List.mem_of_getElem? (i := 33) (by decide +kernel), rfl⟩
theorem w_34 : Cond.selects "ProxyVotes$Hearing" ⟨"ProxyVotes$Hearing", "tally", "(LProxyVotes$Committee;LProxyVotes$Item;)V"⟩ ⟨"ProxyVotes$Hearing", "tally", "(LProxyVotes$Committee;LProxyVotes$Item;)V"⟩ ∈ kWG := List.mem_filter.mpr ⟨List.mem_of_getElem? (i := 34) (by decide +kernel), rfl⟩
theorem w_35 : Cond.selects "ProxyVotes$Hearing" ⟨"ProxyVotes$Hearing", "wayOf", "(LProxyVotes$Committee;LProxyVotes$Item;I)I"⟩ ⟨"ProxyVotes$Hearing", "wayOf", "(LProxyVotes$Committee;LProxyVotes$Item;I)I"⟩ ∈ kWG := List.mem_filter.mpr ⟨List.mem_of_getElem? (i := 35) (by decide +kernel), rfl⟩
theorem w_36 : Cond.selects "ProxyVotes$Hearing" ⟨"ProxyVotes$Hearing", "outcome", "(LProxyVotes$Committee;LProxyVotes$Item;I)I"⟩ ⟨"ProxyVotes$Hearing", "outcome", "(LProxyVotes$Committee;LProxyVotes$Item;I)I"⟩ ∈ kWG := List.mem_filter.mpr ⟨List.mem_of_getElem? (i := 36) (by decide +kernel), rfl⟩
theorem w_37 : Cond.selects "ProxyVotes$Item" ⟨"ProxyVotes$Item", "putOff", "()V"⟩ ⟨"ProxyVotes$Item", "putOff", "()V"⟩ ∈ kWG := List.mem_filter.mpr ⟨List.mem_of_getElem? (i := 37) (by decide +kernel), rfl⟩
theorem w_38 : Cond.selects "ProxyVotes$Committee" ⟨"ProxyVotes$Committee", "breakTie", "(I)I"⟩ ⟨"ProxyVotes$Committee", "breakTie", "(I)I"⟩ ∈ kWG := List.mem_filter.mpr ⟨List.mem_of_getElem? (i := 38) (by decide +kernel), rfl⟩
theorem w_39 : Cond.selects "ProxyVotes$Committee" ⟨"ProxyVotes$Committee", "chairOfTheMoment", "()I"⟩ ⟨"ProxyVotes$Committee", "chairOfTheMoment", "()I"⟩ ∈ kWG := List.mem_filter.mpr ⟨List.mem_of_getElem? (i := 39) (by decide +kernel), rfl⟩
theorem w_40 : Cond.selects "ProxyVotes$Committee" ⟨"ProxyVotes$Committee", "letPass", "(I)I"⟩ ⟨"ProxyVotes$Committee", "letPass", "(I)I"⟩ ∈ kWG := List.mem_filter.mpr ⟨List.mem_of_getElem? (i := 40) (by decide +kernel), rfl⟩
theorem w_41 : Cond.selects "ProxyVotes$Committee" ⟨"ProxyVotes$Committee", "moveTo", "(I)V"⟩ ⟨"ProxyVotes$Committee", "moveTo", "(I)V"⟩ ∈ kWG := List.mem_filter.mpr ⟨List.mem_of_getElem? (i := 41) (by decide +kernel), rfl⟩
theorem w_42 : Cond.selects "ProxyVotes$Movements" ⟨"ProxyVotes$Movements", "next", "()I"⟩ ⟨"ProxyVotes$Movements", "next", "()I"⟩ ∈ kWG := List.mem_filter.mpr ⟨List.mem_of_getElem? (i := 42) (by decide +kernel), rfl⟩
theorem w_43 : Cond.selects "ProxyVotes$Movements" ⟨"ProxyVotes$Movements", "drop", "(I)V"⟩ ⟨"ProxyVotes$Movements", "drop", "(I)V"⟩ ∈ kWG := List.mem_filter.mpr ⟨List.mem_of_getElem? (i := 43) (by decide +kernel), rfl⟩
theorem w_44 : Cond.selects "ProxyVotes$Committee" ⟨"ProxyVotes$Committee", "votesOf", "(I)I"⟩ ⟨"ProxyVotes$Committee", "votesOf", "(I)I"⟩ ∈ kWG := List.mem_filter.mpr ⟨List.mem_of_getElem? (i := 44) (by decide +kernel), rfl⟩
theorem w_45 : Cond.selects "ProxyVotes$Committee" ⟨"ProxyVotes$Committee", "tiesBrokenBy", "(I)I"⟩ ⟨"ProxyVotes$Committee", "tiesBrokenBy", "(I)I"⟩ ∈ kWG := List.mem_filter.mpr ⟨List.mem_of_getElem? (i := 45) (by decide +kernel), rfl⟩
theorem w_46 : Cond.selects "ProxyVotes" ⟨"ProxyVotes", "sumOf", "(LProxyVotes$Item;I)I"⟩ ⟨"ProxyVotes", "sumOf", "(LProxyVotes$Item;I)I"⟩ ∈ kWG := List.mem_filter.mpr ⟨List.mem_of_getElem? (i := 46) (by decide +kernel), rfl⟩
theorem w_47 : Cond.selects "ProxyVotes$Hearing" ⟨"ProxyVotes$Hearing", "spokenForBy", "(LProxyVotes$Committee;I)I"⟩ ⟨"ProxyVotes$Hearing", "spokenForBy", "(LProxyVotes$Committee;I)I"⟩ ∈ kWG := List.mem_filter.mpr ⟨List.mem_of_getElem? (i := 47) (by decide +kernel), rfl⟩
theorem w_48 : Cond.selects "ProxyVotes$Committee" ⟨"ProxyVotes$Committee", "itemsIn", "(I)I"⟩ ⟨"ProxyVotes$Committee", "itemsIn", "(I)I"⟩ ∈ kWG := List.mem_filter.mpr ⟨List.mem_of_getElem? (i := 48) (by decide +kernel), rfl⟩
theorem w_49 : Cond.selects "ProxyVotes" ⟨"ProxyVotes", "canTurn", "(ILProxyVotes$Item;I)Z"⟩ ⟨"ProxyVotes", "canTurn", "(ILProxyVotes$Item;I)Z"⟩ ∈ kWG := List.mem_filter.mpr ⟨List.mem_of_getElem? (i := 49) (by decide +kernel), rfl⟩
theorem w_50 : Cond.selects "ProxyVotes" ⟨"ProxyVotes", "findGains", "(LProxyVotes$Item;)I"⟩ ⟨"ProxyVotes", "findGains", "(LProxyVotes$Item;)I"⟩ ∈ kWG := List.mem_filter.mpr ⟨List.mem_of_getElem? (i := 50) (by decide +kernel), rfl⟩
theorem w_51 : Cond.selects "ProxyVotes" ⟨"ProxyVotes", "fewestToCarry", "(LProxyVotes$Item;I)I"⟩ ⟨"ProxyVotes", "fewestToCarry", "(LProxyVotes$Item;I)I"⟩ ∈ kWG := List.mem_filter.mpr ⟨List.mem_of_getElem? (i := 51) (by decide +kernel), rfl⟩
theorem w_52 : Cond.selects "ProxyVotes" ⟨"ProxyVotes", "gainOf", "(I)I"⟩ ⟨"ProxyVotes", "gainOf", "(I)I"⟩ ∈ kWG := List.mem_filter.mpr ⟨List.mem_of_getElem? (i := 52) (by decide +kernel), rfl⟩
theorem w_53 : Cond.selects "ProxyVotes" ⟨"ProxyVotes", "countSetsWithout", "(I)V"⟩ ⟨"ProxyVotes", "countSetsWithout", "(I)V"⟩ ∈ kWG := List.mem_filter.mpr ⟨List.mem_of_getElem? (i := 53) (by decide +kernel), rfl⟩
theorem w_54 : Cond.selects "ProxyVotes$Committee" ⟨"ProxyVotes$Committee", "nextTurn", "()I"⟩ ⟨"ProxyVotes$Committee", "nextTurn", "()I"⟩ ∈ kWG := List.mem_filter.mpr ⟨List.mem_of_getElem? (i := 54) (by decide +kernel), rfl⟩
theorem w_55 : Cond.selects "ProxyVotes$Pad" ⟨"ProxyVotes$Pad", "append", "(J)I"⟩ ⟨"ProxyVotes$Pad", "append", "(J)I"⟩ ∈ kWG := List.mem_filter.mpr ⟨List.mem_of_getElem? (i := 55) (by decide +kernel), rfl⟩
theorem w_56 : Cond.selects "ProxyVotes$Pad" ⟨"ProxyVotes$Pad", "empty", "()I"⟩ ⟨"ProxyVotes$Pad", "empty", "()I"⟩ ∈ kWG := List.mem_filter.mpr ⟨List.mem_of_getElem? (i := 56) (by decide +kernel), rfl⟩
theorem w_57 : Cond.selects "ProxyVotes$Pad" ⟨"ProxyVotes$Pad", "read", "()I"⟩ ⟨"ProxyVotes$Pad", "read", "()I"⟩ ∈ kWG := List.mem_filter.mpr ⟨List.mem_of_getElem? (i := 57) (by decide +kernel), rfl⟩
theorem w_58 : Cond.selects "ProxyVotes$Pad" ⟨"ProxyVotes$Pad", "readOrder", "(I)Z"⟩ ⟨"ProxyVotes$Pad", "readOrder", "(I)Z"⟩ ∈ kWG := List.mem_filter.mpr ⟨List.mem_of_getElem? (i := 58) (by decide +kernel), rfl⟩
theorem w_59 : Cond.selects "ProxyVotes$Pad" ⟨"ProxyVotes$Pad", "ahead", "()C"⟩ ⟨"ProxyVotes$Pad", "ahead", "()C"⟩ ∈ kWG := List.mem_filter.mpr ⟨List.mem_of_getElem? (i := 59) (by decide +kernel), rfl⟩
theorem w_60 : Cond.selects "ProxyVotes$Pad" ⟨"ProxyVotes$Pad", "readMember", "(I)Z"⟩ ⟨"ProxyVotes$Pad", "readMember", "(I)Z"⟩ ∈ kWG := List.mem_filter.mpr ⟨List.mem_of_getElem? (i := 60) (by decide +kernel), rfl⟩
theorem w_61 : Cond.selects "ProxyVotes$Pad" ⟨"ProxyVotes$Pad", "readNumber", "(I)Z"⟩ ⟨"ProxyVotes$Pad", "readNumber", "(I)Z"⟩ ∈ kWG := List.mem_filter.mpr ⟨List.mem_of_getElem? (i := 61) (by decide +kernel), rfl⟩
theorem w_62 : Cond.selects "ProxyVotes$Pad" ⟨"ProxyVotes$Pad", "readChoice", "(IC)Z"⟩ ⟨"ProxyVotes$Pad", "readChoice", "(IC)Z"⟩ ∈ kWG := List.mem_filter.mpr ⟨List.mem_of_getElem? (i := 62) (by decide +kernel), rfl⟩
theorem w_63 : Cond.selects "ProxyVotes" ⟨"ProxyVotes", "carry", "(I)I"⟩ ⟨"ProxyVotes", "carry", "(I)I"⟩ ∈ kWG := List.mem_filter.mpr ⟨List.mem_of_getElem? (i := 63) (by decide +kernel), rfl⟩
theorem w_64 : Cond.selects "ProxyVotes$History" ⟨"ProxyVotes$History", "takeBack", "(LProxyVotes$Committee;)I"⟩ ⟨"ProxyVotes$History", "takeBack", "(LProxyVotes$Committee;)I"⟩ ∈ kWG := List.mem_filter.mpr ⟨List.mem_of_getElem? (i := 64) (by decide +kernel), rfl⟩
theorem w_65 : Cond.selects "ProxyVotesModel" ⟨"ProxyVotesModel", "record", "()V"⟩ ⟨"ProxyVotesModel", "record", "()V"⟩ ∈ kWG := List.mem_filter.mpr ⟨List.mem_of_getElem? (i := 65) (by decide +kernel), rfl⟩
theorem w_66 : Cond.selects "ProxyVotesModel" ⟨"ProxyVotesModel", "isMember", "(I)Z"⟩ ⟨"ProxyVotesModel", "isMember", "(I)Z"⟩ ∈ kWG := List.mem_filter.mpr ⟨List.mem_of_getElem? (i := 66) (by decide +kernel), rfl⟩
theorem w_67 : Cond.selects "ProxyVotesModel" ⟨"ProxyVotesModel", "turnTo", "(II)I"⟩ ⟨"ProxyVotesModel", "turnTo", "(II)I"⟩ ∈ kWG := List.mem_filter.mpr ⟨List.mem_of_getElem? (i := 67) (by decide +kernel), rfl⟩
theorem w_68 : Cond.selects "ProxyVotesModel" ⟨"ProxyVotesModel", "ofOne", "(II)I"⟩ ⟨"ProxyVotesModel", "ofOne", "(II)I"⟩ ∈ kWG := List.mem_filter.mpr ⟨List.mem_of_getElem? (i := 68) (by decide +kernel), rfl⟩
theorem w_69 : Cond.selects "ProxyVotesModel" ⟨"ProxyVotesModel", "present", "()I"⟩ ⟨"ProxyVotesModel", "present", "()I"⟩ ∈ kWG := List.mem_filter.mpr ⟨List.mem_of_getElem? (i := 69) (by decide +kernel), rfl⟩
theorem w_70 : Cond.selects "ProxyVotesModel" ⟨"ProxyVotesModel", "isPresent", "(I)Z"⟩ ⟨"ProxyVotesModel", "isPresent", "(I)Z"⟩ ∈ kWG := List.mem_filter.mpr ⟨List.mem_of_getElem? (i := 70) (by decide +kernel), rfl⟩
theorem w_71 : Cond.selects "ProxyVotesModel" ⟨"ProxyVotesModel", "isItem", "(I)Z"⟩ ⟨"ProxyVotesModel", "isItem", "(I)Z"⟩ ∈ kWG := List.mem_filter.mpr ⟨List.mem_of_getElem? (i := 71) (by decide +kernel), rfl⟩
theorem w_72 : Cond.selects "ProxyVotesModel" ⟨"ProxyVotesModel", "isAhead", "(I)Z"⟩ ⟨"ProxyVotesModel", "isAhead", "(I)Z"⟩ ∈ kWG := List.mem_filter.mpr ⟨List.mem_of_getElem? (i := 72) (by decide +kernel), rfl⟩
theorem w_73 : Cond.selects "ProxyVotesModel" ⟨"ProxyVotesModel", "stateOf", "(I)I"⟩ ⟨"ProxyVotesModel", "stateOf", "(I)I"⟩ ∈ kWG := List.mem_filter.mpr ⟨List.mem_of_getElem? (i := 73) (by decide +kernel), rfl⟩
theorem w_74 : Cond.selects "ProxyVotesModel" ⟨"ProxyVotesModel", "isRecused", "(II)Z"⟩ ⟨"ProxyVotesModel", "isRecused", "(II)Z"⟩ ∈ kWG := List.mem_filter.mpr ⟨List.mem_of_getElem? (i := 74) (by decide +kernel), rfl⟩
theorem w_75 : Cond.selects "ProxyVotesModel" ⟨"ProxyVotesModel", "itemIn", "(I)I"⟩ ⟨"ProxyVotesModel", "itemIn", "(I)I"⟩ ∈ kWG := List.mem_filter.mpr ⟨List.mem_of_getElem? (i := 75) (by decide +kernel), rfl⟩
theorem w_76 : Cond.selects "ProxyVotesModel" ⟨"ProxyVotesModel", "isQuorum", "(I)Z"⟩ ⟨"ProxyVotesModel", "isQuorum", "(I)Z"⟩ ∈ kWG := List.mem_filter.mpr ⟨List.mem_of_getElem? (i := 76) (by decide +kernel), rfl⟩
theorem w_77 : Cond.selects "ProxyVotesModel" ⟨"ProxyVotesModel", "weightThere", "(I)I"⟩ ⟨"ProxyVotesModel", "weightThere", "(I)I"⟩ ∈ kWG := List.mem_filter.mpr ⟨List.mem_of_getElem? (i := 77) (by decide +kernel), rfl⟩
theorem w_78 : Cond.selects "ProxyVotesModel" ⟨"ProxyVotesModel", "layVoices", "(I)V"⟩ ⟨"ProxyVotesModel", "layVoices", "(I)V"⟩ ∈ kWG := List.mem_filter.mpr ⟨List.mem_of_getElem? (i := 78) (by decide +kernel), rfl⟩
theorem w_79 : Cond.selects "ProxyVotesModel" ⟨"ProxyVotesModel", "endOf", "(II)I"⟩ ⟨"ProxyVotesModel", "endOf", "(II)I"⟩ ∈ kWG := List.mem_filter.mpr ⟨List.mem_of_getElem? (i := 79) (by decide +kernel), rfl⟩
theorem w_80 : Cond.selects "ProxyVotesModel" ⟨"ProxyVotesModel", "holderOf", "(II)I"⟩ ⟨"ProxyVotesModel", "holderOf", "(II)I"⟩ ∈ kWG := List.mem_filter.mpr ⟨List.mem_of_getElem? (i := 80) (by decide +kernel), rfl⟩
theorem w_81 : Cond.selects "ProxyVotesModel" ⟨"ProxyVotesModel", "pair", "(III)I"⟩ ⟨"ProxyVotesModel", "pair", "(III)I"⟩ ∈ kWG := List.mem_filter.mpr ⟨List.mem_of_getElem? (i := 81) (by decide +kernel), rfl⟩
theorem w_82 : Cond.selects "ProxyVotesModel" ⟨"ProxyVotesModel", "allWeight", "()I"⟩ ⟨"ProxyVotesModel", "allWeight", "()I"⟩ ∈ kWG := List.mem_filter.mpr ⟨List.mem_of_getElem? (i := 82) (by decide +kernel), rfl⟩
theorem w_83 : Cond.selects "ProxyVotesModel" ⟨"ProxyVotesModel", "outcome", "(I)I"⟩ ⟨"ProxyVotesModel", "outcome", "(I)I"⟩ ∈ kWG := List.mem_filter.mpr ⟨List.mem_of_getElem? (i := 83) (by decide +kernel), rfl⟩
theorem w_84 : Cond.selects "ProxyVotesModel" ⟨"ProxyVotesModel", "count6", "(I)V"⟩ ⟨"ProxyVotesModel", "count6", "(I)V"⟩ ∈ kWG := List.mem_filter.mpr ⟨List.mem_of_getElem? (i := 84) (by decide +kernel), rfl⟩
theorem w_85 : Cond.selects "ProxyVotesModel" ⟨"ProxyVotesModel", "wayOf", "(II)I"⟩ ⟨"ProxyVotesModel", "wayOf", "(II)I"⟩ ∈ kWG := List.mem_filter.mpr ⟨List.mem_of_getElem? (i := 85) (by decide +kernel), rfl⟩
theorem w_86 : Cond.selects "ProxyVotesModel" ⟨"ProxyVotesModel", "chairNow", "()I"⟩ ⟨"ProxyVotesModel", "chairNow", "()I"⟩ ∈ kWG := List.mem_filter.mpr ⟨List.mem_of_getElem? (i := 86) (by decide +kernel), rfl⟩
theorem w_87 : Cond.selects "ProxyVotesModel" ⟨"ProxyVotesModel", "nextMinute", "()V"⟩ ⟨"ProxyVotesModel", "nextMinute", "()V"⟩ ∈ kWG := List.mem_filter.mpr ⟨List.mem_of_getElem? (i := 87) (by decide +kernel), rfl⟩
theorem w_88 : Cond.selects "ProxyVotesModel" ⟨"ProxyVotesModel", "votesOf", "(I)I"⟩ ⟨"ProxyVotesModel", "votesOf", "(I)I"⟩ ∈ kWG := List.mem_filter.mpr ⟨List.mem_of_getElem? (i := 88) (by decide +kernel), rfl⟩
theorem w_89 : Cond.selects "ProxyVotesModel" ⟨"ProxyVotesModel", "itemsIn", "(I)I"⟩ ⟨"ProxyVotesModel", "itemsIn", "(I)I"⟩ ∈ kWG := List.mem_filter.mpr ⟨List.mem_of_getElem? (i := 89) (by decide +kernel), rfl⟩
theorem w_90 : Cond.selects "ProxyVotesModel" ⟨"ProxyVotesModel", "canVote", "(II)Z"⟩ ⟨"ProxyVotesModel", "canVote", "(II)Z"⟩ ∈ kWG := List.mem_filter.mpr ⟨List.mem_of_getElem? (i := 90) (by decide +kernel), rfl⟩
theorem w_91 : Cond.selects "ProxyVotesModel" ⟨"ProxyVotesModel", "isCarriedBy", "(II)Z"⟩ ⟨"ProxyVotesModel", "isCarriedBy", "(II)Z"⟩ ∈ kWG := List.mem_filter.mpr ⟨List.mem_of_getElem? (i := 91) (by decide +kernel), rfl⟩
theorem w_92 : Cond.selects "ProxyVotesModel" ⟨"ProxyVotesModel", "keep", "()V"⟩ ⟨"ProxyVotesModel", "keep", "()V"⟩ ∈ kWG := List.mem_filter.mpr ⟨List.mem_of_getElem? (i := 92) (by decide +kernel), rfl⟩
theorem w_93 : Cond.selects "ProxyVotesModel" ⟨"ProxyVotesModel", "comeBack", "()V"⟩ ⟨"ProxyVotesModel", "comeBack", "()V"⟩ ∈ kWG := List.mem_filter.mpr ⟨List.mem_of_getElem? (i := 93) (by decide +kernel), rfl⟩
theorem w_94 : Cond.selects "ProxyVotesModel" ⟨"ProxyVotesModel", "faultOf", "()I"⟩ ⟨"ProxyVotesModel", "faultOf", "()I"⟩ ∈ kWG := List.mem_filter.mpr ⟨List.mem_of_getElem? (i := 94) (by decide +kernel), rfl⟩
theorem w_95 : Cond.selects "ProxyVotesModel" ⟨"ProxyVotesModel", "readOne", "()V"⟩ ⟨"ProxyVotesModel", "readOne", "()V"⟩ ∈ kWG := List.mem_filter.mpr ⟨List.mem_of_getElem? (i := 95) (by decide +kernel), rfl⟩
theorem w_96 : Cond.selects "ProxyVotesModel" ⟨"ProxyVotesModel", "sign", "()I"⟩ ⟨"ProxyVotesModel", "sign", "()I"⟩ ∈ kWG := List.mem_filter.mpr ⟨List.mem_of_getElem? (i := 96) (by decide +kernel), rfl⟩
theorem w_97 : Cond.selects "ProxyVotesModel" ⟨"ProxyVotesModel", "number", "()I"⟩ ⟨"ProxyVotesModel", "number", "()I"⟩ ∈ kWG := List.mem_filter.mpr ⟨List.mem_of_getElem? (i := 97) (by decide +kernel), rfl⟩
theorem w_98 : Cond.selects "ProxyVotesModel" ⟨"ProxyVotesModel", "one", "(III)I"⟩ ⟨"ProxyVotesModel", "one", "(III)I"⟩ ∈ kWG := List.mem_filter.mpr ⟨List.mem_of_getElem? (i := 98) (by decide +kernel), rfl⟩
theorem w_99 : Cond.selects "ProxyVotesModel" ⟨"ProxyVotesModel", "carry", "(I)Z"⟩ ⟨"ProxyVotesModel", "carry", "(I)Z"⟩ ∈ kWG := List.mem_filter.mpr ⟨List.mem_of_getElem? (i := 99) (by decide +kernel), rfl⟩
theorem w_100 : Cond.initialized "ProxyVotesLaw" ∈ kWG := List.mem_filter.mpr ⟨List.mem_of_getElem? (i := 100) (by decide +kernel), rfl⟩
theorem w_101 : Cond.initialized "ProxyVotes" ∈ kWG := List.mem_filter.mpr ⟨List.mem_of_getElem? (i := 101) (by decide +kernel), rfl⟩
theorem w_102 : Cond.initialized "ProxyVotes$Committee" ∈ kWG := List.mem_filter.mpr ⟨List.mem_of_getElem? (i := 102) (by decide +kernel), rfl⟩
theorem w_103 : Cond.initialized "ProxyVotes$Movements" ∈ kWG := List.mem_filter.mpr ⟨List.mem_of_getElem? (i := 103) (by decide +kernel), rfl⟩
theorem w_104 : Cond.initialized "java/lang/System" ∈ kWG := List.mem_filter.mpr ⟨List.mem_of_getElem? (i := 104) (by decide +kernel), rfl⟩
theorem w_105 : Cond.initialized "ProxyVotes$Item" ∈ kWG := List.mem_filter.mpr ⟨List.mem_of_getElem? (i := 105) (by decide +kernel), rfl⟩
theorem w_106 : Cond.initialized "ProxyVotes$Hearing" ∈ kWG := List.mem_filter.mpr ⟨List.mem_of_getElem? (i := 106) (by decide +kernel), rfl⟩
theorem w_107 : Cond.initialized "ProxyVotes$History" ∈ kWG := List.mem_filter.mpr ⟨List.mem_of_getElem? (i := 107) (by decide +kernel), rfl⟩
theorem w_108 : Cond.initialized "ProxyVotes$Pad" ∈ kWG := List.mem_filter.mpr ⟨List.mem_of_getElem? (i := 108) (by decide +kernel), rfl⟩
theorem w_109 : Cond.initialized "ProxyVotesModel" ∈ kWG := List.mem_filter.mpr ⟨List.mem_of_getElem? (i := 109) (by decide +kernel), rfl⟩
theorem w_110 : Cond.initialized "java/lang/Math" ∈ kWG := List.mem_filter.mpr ⟨List.mem_of_getElem? (i := 110) (by decide +kernel), rfl⟩
theorem w_111 : Cond.initialized "java/util/Arrays" ∈ kWG := List.mem_filter.mpr ⟨List.mem_of_getElem? (i := 111) (by decide +kernel), rfl⟩
theorem w_112 : Cond.initialized "java/lang/Integer" ∈ kWG := List.mem_filter.mpr ⟨List.mem_of_getElem? (i := 112) (by decide +kernel), rfl⟩
theorem w_113 : Cond.classLink "ProxyVotesLaw" 7 "ProxyVotes" ∈ kWG := List.mem_filter.mpr ⟨List.mem_of_getElem? (i := 113) (by decide +kernel), rfl⟩
theorem w_114 : Cond.instantiable "ProxyVotes" 9 ∈ kWG := List.mem_filter.mpr ⟨List.mem_of_getElem? (i := 114) (by decide +kernel), rfl⟩
theorem w_115 : Cond.methodLink "ProxyVotesLaw" 9 ⟨"ProxyVotes", "<init>", "()V"⟩ ∈ kWG := List.mem_filter.mpr ⟨List.mem_of_getElem? (i := 115) (by decide +kernel), rfl⟩
theorem w_116 : Cond.instanceMethod ⟨"ProxyVotes", "<init>", "()V"⟩ ∈ kWG := List.mem_filter.mpr ⟨List.mem_of_getElem? (i := 116) (by decide +kernel), rfl⟩
theorem w_117 : Cond.code ⟨"ProxyVotes", "<init>", "()V"⟩ prog_1_method_1_code 2 none ∈ kWG := List.mem_filter.mpr ⟨List.mem_of_getElem? (i := 117) (by decide +kernel), rfl⟩
theorem w_118 : Cond.methodLink "ProxyVotes" 1 ⟨"java/lang/Object", "<init>", "()V"⟩ ∈ kWG := List.mem_filter.mpr ⟨List.mem_of_getElem? (i := 118) (by decide +kernel), rfl⟩
theorem w_119 : Cond.instanceMethod ⟨"java/lang/Object", "<init>", "()V"⟩ ∈ kWG := List.mem_filter.mpr ⟨List.mem_of_getElem? (i := 119) (by decide +kernel), rfl⟩
theorem w_120 : Cond.code ⟨"java/lang/Object", "<init>", "()V"⟩ object_method_1_code 1 none ∈ kWG := List.mem_filter.mpr ⟨List.mem_of_getElem? (i := 120) (by decide +kernel), rfl⟩
theorem w_121 : Cond.classLink "ProxyVotes" 7 "ProxyVotes$Committee" ∈ kWG := List.mem_filter.mpr ⟨List.mem_of_getElem? (i := 121) (by decide +kernel), rfl⟩
theorem w_122 : Cond.instantiable "ProxyVotes$Committee" 11 ∈ kWG := List.mem_filter.mpr ⟨List.mem_of_getElem? (i := 122) (by decide +kernel), rfl⟩
theorem w_124 : Cond.instanceMethod ⟨"ProxyVotes$Committee", "<init>", "()V"⟩ ∈ kWG := List.mem_filter.mpr ⟨List.mem_of_getElem? (i := 124) (by decide +kernel), rfl⟩
theorem w_125 : Cond.code ⟨"ProxyVotes$Committee", "<init>", "()V"⟩ prog_2_method_1_code 2 none ∈ kWG := List.mem_filter.mpr ⟨List.mem_of_getElem? (i := 125) (by decide +kernel), rfl⟩
theorem w_126 : Cond.methodLink "ProxyVotes$Committee" 3 ⟨"java/lang/Object", "<init>", "()V"⟩ ∈ kWG := List.mem_filter.mpr ⟨List.mem_of_getElem? (i := 126) (by decide +kernel), rfl⟩
theorem w_127 : Cond.classLink "ProxyVotes$Committee" 28 "ProxyVotes$Item" ∈ kWG := List.mem_filter.mpr ⟨List.mem_of_getElem? (i := 127) (by decide +kernel), rfl⟩
theorem w_129 : Cond.classLink "ProxyVotes$Committee" 34 "ProxyVotes$Movements" ∈ kWG := List.mem_filter.mpr ⟨List.mem_of_getElem? (i := 129) (by decide +kernel), rfl⟩
theorem w_130 : Cond.instantiable "ProxyVotes$Movements" 4 ∈ kWG := List.mem_filter.mpr ⟨List.mem_of_getElem? (i := 130) (by decide +kernel), rfl⟩
theorem w_132 : Cond.instanceMethod ⟨"ProxyVotes$Movements", "<init>", "()V"⟩ ∈ kWG := List.mem_filter.mpr ⟨List.mem_of_getElem? (i := 132) (by decide +kernel), rfl⟩
theorem w_133 : Cond.code ⟨"ProxyVotes$Movements", "<init>", "()V"⟩ prog_6_method_1_code 1 none ∈ kWG := List.mem_filter.mpr ⟨List.mem_of_getElem? (i := 133) (by decide +kernel), rfl⟩
theorem w_134 : Cond.methodLink "ProxyVotes$Movements" 3 ⟨"java/lang/Object", "<init>", "()V"⟩ ∈ kWG := List.mem_filter.mpr ⟨List.mem_of_getElem? (i := 134) (by decide +kernel), rfl⟩
theorem w_135 : Cond.fieldLink "ProxyVotes$Movements" 21 "ProxyVotes$Movements" "number" "I" ∈ kWG := List.mem_filter.mpr ⟨List.mem_of_getElem? (i := 135) (by decide +kernel), rfl⟩
theorem w_138 : Cond.fieldLink "ProxyVotes$Movements" 9 "ProxyVotes$Movements" "minutes" "[I" ∈ kWG := List.mem_filter.mpr ⟨List.mem_of_getElem? (i := 138) (by decide +kernel), rfl⟩
theorem w_140 : Cond.fieldLink "ProxyVotes$Movements" 15 "ProxyVotes$Movements" "movers" "[I" ∈ kWG := List.mem_filter.mpr ⟨List.mem_of_getElem? (i := 140) (by decide +kernel), rfl⟩
theorem w_142 : Cond.fieldLink "ProxyVotes$Movements" 18 "ProxyVotes$Movements" "comings" "[I" ∈ kWG := List.mem_filter.mpr ⟨List.mem_of_getElem? (i := 142) (by decide +kernel), rfl⟩
theorem w_144 : Cond.lays "ProxyVotes$Movements" "ProxyVotes$Movements" "number" "I" ∈ kWG := List.mem_filter.mpr ⟨List.mem_of_getElem? (i := 144) (by decide +kernel), rfl⟩
theorem w_146 : Cond.laysFinal "ProxyVotes$Movements" "ProxyVotes$Movements" "minutes" "[I" ∈ kWG := List.mem_filter.mpr ⟨List.mem_of_getElem? (i := 146) (by decide +kernel), rfl⟩
theorem w_148 : Cond.laysFinal "ProxyVotes$Movements" "ProxyVotes$Movements" "movers" "[I" ∈ kWG := List.mem_filter.mpr ⟨List.mem_of_getElem? (i := 148) (by decide +kernel), rfl⟩
theorem w_150 : Cond.laysFinal "ProxyVotes$Movements" "ProxyVotes$Movements" "comings" "[I" ∈ kWG := List.mem_filter.mpr ⟨List.mem_of_getElem? (i := 150) (by decide +kernel), rfl⟩
theorem w_153 : Cond.arrayClass FieldType.int ∈ kWG := List.mem_filter.mpr ⟨List.mem_of_getElem? (i := 153) (by decide +kernel), rfl⟩
theorem w_156 : Cond.methodLink "ProxyVotes$Committee" 44 ⟨"java/lang/System", "arraycopy", "(Ljava/lang/Object;ILjava/lang/Object;II)V"⟩ ∈ kWG := List.mem_filter.mpr ⟨List.mem_of_getElem? (i := 156) (by decide +kernel), rfl⟩
theorem w_157 : Cond.static ⟨"java/lang/System", "arraycopy", "(Ljava/lang/Object;ILjava/lang/Object;II)V"⟩ ∈ kWG := List.mem_filter.mpr ⟨List.mem_of_getElem? (i := 157) (by decide +kernel), rfl⟩
theorem w_158 : Cond.native ⟨"java/lang/System", "arraycopy", "(Ljava/lang/Object;ILjava/lang/Object;II)V"⟩ ∈ kWG := List.mem_filter.mpr ⟨List.mem_of_getElem? (i := 158) (by decide +kernel), rfl⟩
theorem w_159 : Cond.instantiable "ProxyVotes$Item" 10 ∈ kWG := List.mem_filter.mpr ⟨List.mem_of_getElem? (i := 159) (by decide +kernel), rfl⟩
theorem w_161 : Cond.instanceMethod ⟨"ProxyVotes$Item", "<init>", "()V"⟩ ∈ kWG := List.mem_filter.mpr ⟨List.mem_of_getElem? (i := 161) (by decide +kernel), rfl⟩
theorem w_162 : Cond.code ⟨"ProxyVotes$Item", "<init>", "()V"⟩ prog_5_method_1_code 1 none ∈ kWG := List.mem_filter.mpr ⟨List.mem_of_getElem? (i := 162) (by decide +kernel), rfl⟩
theorem w_163 : Cond.methodLink "ProxyVotes$Item" 3 ⟨"java/lang/Object", "<init>", "()V"⟩ ∈ kWG := List.mem_filter.mpr ⟨List.mem_of_getElem? (i := 163) (by decide +kernel), rfl⟩
theorem w_164 : Cond.fieldLink "ProxyVotes$Item" 24 "ProxyVotes$Item" "kind" "I" ∈ kWG := List.mem_filter.mpr ⟨List.mem_of_getElem? (i := 164) (by decide +kernel), rfl⟩
theorem w_167 : Cond.fieldLink "ProxyVotes$Item" 28 "ProxyVotes$Item" "touched" "I" ∈ kWG := List.mem_filter.mpr ⟨List.mem_of_getElem? (i := 167) (by decide +kernel), rfl⟩
theorem w_170 : Cond.fieldLink "ProxyVotes$Item" 31 "ProxyVotes$Item" "state" "I" ∈ kWG := List.mem_filter.mpr ⟨List.mem_of_getElem? (i := 170) (by decide +kernel), rfl⟩
theorem w_173 : Cond.fieldLink "ProxyVotes$Item" 34 "ProxyVotes$Item" "recusedByHand" "I" ∈ kWG := List.mem_filter.mpr ⟨List.mem_of_getElem? (i := 173) (by decide +kernel), rfl⟩
theorem w_175 : Cond.fieldLink "ProxyVotes$Item" 37 "ProxyVotes$Item" "breaker" "I" ∈ kWG := List.mem_filter.mpr ⟨List.mem_of_getElem? (i := 175) (by decide +kernel), rfl⟩
theorem w_178 : Cond.fieldLink "ProxyVotes$Item" 40 "ProxyVotes$Item" "timesPutOff" "I" ∈ kWG := List.mem_filter.mpr ⟨List.mem_of_getElem? (i := 178) (by decide +kernel), rfl⟩
theorem w_180 : Cond.fieldLink "ProxyVotes$Item" 9 "ProxyVotes$Item" "sums" "[I" ∈ kWG := List.mem_filter.mpr ⟨List.mem_of_getElem? (i := 180) (by decide +kernel), rfl⟩
theorem w_183 : Cond.fieldLink "ProxyVotes$Item" 15 "ProxyVotes$Item" "votes" "[I" ∈ kWG := List.mem_filter.mpr ⟨List.mem_of_getElem? (i := 183) (by decide +kernel), rfl⟩
theorem w_187 : Cond.fieldLink "ProxyVotes$Item" 18 "ProxyVotes$Item" "told" "[I" ∈ kWG := List.mem_filter.mpr ⟨List.mem_of_getElem? (i := 187) (by decide +kernel), rfl⟩
theorem w_191 : Cond.fieldLink "ProxyVotes$Item" 21 "ProxyVotes$Item" "holders" "[I" ∈ kWG := List.mem_filter.mpr ⟨List.mem_of_getElem? (i := 191) (by decide +kernel), rfl⟩
theorem w_194 : Cond.lays "ProxyVotes$Item" "ProxyVotes$Item" "kind" "I" ∈ kWG := List.mem_filter.mpr ⟨List.mem_of_getElem? (i := 194) (by decide +kernel), rfl⟩
theorem w_196 : Cond.lays "ProxyVotes$Item" "ProxyVotes$Item" "touched" "I" ∈ kWG := List.mem_filter.mpr ⟨List.mem_of_getElem? (i := 196) (by decide +kernel), rfl⟩
theorem w_198 : Cond.lays "ProxyVotes$Item" "ProxyVotes$Item" "state" "I" ∈ kWG := List.mem_filter.mpr ⟨List.mem_of_getElem? (i := 198) (by decide +kernel), rfl⟩
theorem w_200 : Cond.lays "ProxyVotes$Item" "ProxyVotes$Item" "recusedByHand" "I" ∈ kWG := List.mem_filter.mpr ⟨List.mem_of_getElem? (i := 200) (by decide +kernel), rfl⟩
theorem w_202 : Cond.lays "ProxyVotes$Item" "ProxyVotes$Item" "breaker" "I" ∈ kWG := List.mem_filter.mpr ⟨List.mem_of_getElem? (i := 202) (by decide +kernel), rfl⟩
theorem w_204 : Cond.lays "ProxyVotes$Item" "ProxyVotes$Item" "timesPutOff" "I" ∈ kWG := List.mem_filter.mpr ⟨List.mem_of_getElem? (i := 204) (by decide +kernel), rfl⟩
theorem w_206 : Cond.laysFinal "ProxyVotes$Item" "ProxyVotes$Item" "sums" "[I" ∈ kWG := List.mem_filter.mpr ⟨List.mem_of_getElem? (i := 206) (by decide +kernel), rfl⟩
theorem w_208 : Cond.laysFinal "ProxyVotes$Item" "ProxyVotes$Item" "votes" "[I" ∈ kWG := List.mem_filter.mpr ⟨List.mem_of_getElem? (i := 208) (by decide +kernel), rfl⟩
theorem w_210 : Cond.laysFinal "ProxyVotes$Item" "ProxyVotes$Item" "told" "[I" ∈ kWG := List.mem_filter.mpr ⟨List.mem_of_getElem? (i := 210) (by decide +kernel), rfl⟩
theorem w_212 : Cond.laysFinal "ProxyVotes$Item" "ProxyVotes$Item" "holders" "[I" ∈ kWG := List.mem_filter.mpr ⟨List.mem_of_getElem? (i := 212) (by decide +kernel), rfl⟩
theorem w_215 : Cond.fieldLink "ProxyVotes$Committee" 51 "ProxyVotes$Committee" "minute" "I" ∈ kWG := List.mem_filter.mpr ⟨List.mem_of_getElem? (i := 215) (by decide +kernel), rfl⟩
theorem w_217 : Cond.fieldLink "ProxyVotes$Committee" 54 "ProxyVotes$Committee" "memberCount" "I" ∈ kWG := List.mem_filter.mpr ⟨List.mem_of_getElem? (i := 217) (by decide +kernel), rfl⟩
theorem w_220 : Cond.fieldLink "ProxyVotes$Committee" 57 "ProxyVotes$Committee" "itemCount" "I" ∈ kWG := List.mem_filter.mpr ⟨List.mem_of_getElem? (i := 220) (by decide +kernel), rfl⟩
theorem w_222 : Cond.fieldLink "ProxyVotes$Committee" 60 "ProxyVotes$Committee" "present" "I" ∈ kWG := List.mem_filter.mpr ⟨List.mem_of_getElem? (i := 222) (by decide +kernel), rfl⟩
theorem w_224 : Cond.fieldLink "ProxyVotes$Committee" 9 "ProxyVotes$Committee" "chairNamed" "I" ∈ kWG := List.mem_filter.mpr ⟨List.mem_of_getElem? (i := 224) (by decide +kernel), rfl⟩
theorem w_226 : Cond.fieldLink "ProxyVotes$Committee" 15 "ProxyVotes$Committee" "settings" "[I" ∈ kWG := List.mem_filter.mpr ⟨List.mem_of_getElem? (i := 226) (by decide +kernel), rfl⟩
theorem w_229 : Cond.fieldLink "ProxyVotes$Committee" 19 "ProxyVotes$Committee" "weights" "[I" ∈ kWG := List.mem_filter.mpr ⟨List.mem_of_getElem? (i := 229) (by decide +kernel), rfl⟩
theorem w_232 : Cond.fieldLink "ProxyVotes$Committee" 22 "ProxyVotes$Committee" "groups" "[I" ∈ kWG := List.mem_filter.mpr ⟨List.mem_of_getElem? (i := 232) (by decide +kernel), rfl⟩
theorem w_234 : Cond.fieldLink "ProxyVotes$Committee" 25 "ProxyVotes$Committee" "holders" "[I" ∈ kWG := List.mem_filter.mpr ⟨List.mem_of_getElem? (i := 234) (by decide +kernel), rfl⟩
theorem w_236 : Cond.fieldLink "ProxyVotes$Committee" 30 "ProxyVotes$Committee" "items" "[LProxyVotes$Item;" ∈ kWG := List.mem_filter.mpr ⟨List.mem_of_getElem? (i := 236) (by decide +kernel), rfl⟩
theorem w_238 : Cond.fieldLink "ProxyVotes$Committee" 37 "ProxyVotes$Committee" "movements" "LProxyVotes$Movements;" ∈ kWG := List.mem_filter.mpr ⟨List.mem_of_getElem? (i := 238) (by decide +kernel), rfl⟩
theorem w_240 : Cond.lays "ProxyVotes$Committee" "ProxyVotes$Committee" "minute" "I" ∈ kWG := List.mem_filter.mpr ⟨List.mem_of_getElem? (i := 240) (by decide +kernel), rfl⟩
theorem w_242 : Cond.lays "ProxyVotes$Committee" "ProxyVotes$Committee" "memberCount" "I" ∈ kWG := List.mem_filter.mpr ⟨List.mem_of_getElem? (i := 242) (by decide +kernel), rfl⟩
theorem w_244 : Cond.lays "ProxyVotes$Committee" "ProxyVotes$Committee" "itemCount" "I" ∈ kWG := List.mem_filter.mpr ⟨List.mem_of_getElem? (i := 244) (by decide +kernel), rfl⟩
theorem w_246 : Cond.lays "ProxyVotes$Committee" "ProxyVotes$Committee" "present" "I" ∈ kWG := List.mem_filter.mpr ⟨List.mem_of_getElem? (i := 246) (by decide +kernel), rfl⟩
theorem w_248 : Cond.lays "ProxyVotes$Committee" "ProxyVotes$Committee" "chairNamed" "I" ∈ kWG := List.mem_filter.mpr ⟨List.mem_of_getElem? (i := 248) (by decide +kernel), rfl⟩
theorem w_250 : Cond.laysFinal "ProxyVotes$Committee" "ProxyVotes$Committee" "settings" "[I" ∈ kWG := List.mem_filter.mpr ⟨List.mem_of_getElem? (i := 250) (by decide +kernel), rfl⟩
theorem w_252 : Cond.laysFinal "ProxyVotes$Committee" "ProxyVotes$Committee" "weights" "[I" ∈ kWG := List.mem_filter.mpr ⟨List.mem_of_getElem? (i := 252) (by decide +kernel), rfl⟩
theorem w_254 : Cond.laysFinal "ProxyVotes$Committee" "ProxyVotes$Committee" "groups" "[I" ∈ kWG := List.mem_filter.mpr ⟨List.mem_of_getElem? (i := 254) (by decide +kernel), rfl⟩
theorem w_256 : Cond.laysFinal "ProxyVotes$Committee" "ProxyVotes$Committee" "holders" "[I" ∈ kWG := List.mem_filter.mpr ⟨List.mem_of_getElem? (i := 256) (by decide +kernel), rfl⟩
theorem w_258 : Cond.laysFinal "ProxyVotes$Committee" "ProxyVotes$Committee" "items" "[LProxyVotes$Item;" ∈ kWG := List.mem_filter.mpr ⟨List.mem_of_getElem? (i := 258) (by decide +kernel), rfl⟩
theorem w_260 : Cond.laysFinal "ProxyVotes$Committee" "ProxyVotes$Committee" "movements" "LProxyVotes$Movements;" ∈ kWG := List.mem_filter.mpr ⟨List.mem_of_getElem? (i := 260) (by decide +kernel), rfl⟩
theorem w_263 : Cond.classLink "ProxyVotes" 19 "ProxyVotes$Hearing" ∈ kWG := List.mem_filter.mpr ⟨List.mem_of_getElem? (i := 263) (by decide +kernel), rfl⟩
theorem w_264 : Cond.instantiable "ProxyVotes$Hearing" 3 ∈ kWG := List.mem_filter.mpr ⟨List.mem_of_getElem? (i := 264) (by decide +kernel), rfl⟩
theorem w_266 : Cond.instanceMethod ⟨"ProxyVotes$Hearing", "<init>", "()V"⟩ ∈ kWG := List.mem_filter.mpr ⟨List.mem_of_getElem? (i := 266) (by decide +kernel), rfl⟩
theorem w_267 : Cond.code ⟨"ProxyVotes$Hearing", "<init>", "()V"⟩ prog_3_method_1_code 1 none ∈ kWG := List.mem_filter.mpr ⟨List.mem_of_getElem? (i := 267) (by decide +kernel), rfl⟩
theorem w_268 : Cond.methodLink "ProxyVotes$Hearing" 3 ⟨"java/lang/Object", "<init>", "()V"⟩ ∈ kWG := List.mem_filter.mpr ⟨List.mem_of_getElem? (i := 268) (by decide +kernel), rfl⟩
theorem w_269 : Cond.fieldLink "ProxyVotes$Hearing" 9 "ProxyVotes$Hearing" "speakers" "[I" ∈ kWG := List.mem_filter.mpr ⟨List.mem_of_getElem? (i := 269) (by decide +kernel), rfl⟩
theorem w_271 : Cond.fieldLink "ProxyVotes$Hearing" 15 "ProxyVotes$Hearing" "loads" "[I" ∈ kWG := List.mem_filter.mpr ⟨List.mem_of_getElem? (i := 271) (by decide +kernel), rfl⟩
theorem w_273 : Cond.fieldLink "ProxyVotes$Hearing" 18 "ProxyVotes$Hearing" "sums" "[I" ∈ kWG := List.mem_filter.mpr ⟨List.mem_of_getElem? (i := 273) (by decide +kernel), rfl⟩
theorem w_276 : Cond.laysFinal "ProxyVotes$Hearing" "ProxyVotes$Hearing" "speakers" "[I" ∈ kWG := List.mem_filter.mpr ⟨List.mem_of_getElem? (i := 276) (by decide +kernel), rfl⟩
theorem w_278 : Cond.laysFinal "ProxyVotes$Hearing" "ProxyVotes$Hearing" "loads" "[I" ∈ kWG := List.mem_filter.mpr ⟨List.mem_of_getElem? (i := 278) (by decide +kernel), rfl⟩
theorem w_280 : Cond.laysFinal "ProxyVotes$Hearing" "ProxyVotes$Hearing" "sums" "[I" ∈ kWG := List.mem_filter.mpr ⟨List.mem_of_getElem? (i := 280) (by decide +kernel), rfl⟩
theorem w_283 : Cond.classLink "ProxyVotes" 26 "ProxyVotes$History" ∈ kWG := List.mem_filter.mpr ⟨List.mem_of_getElem? (i := 283) (by decide +kernel), rfl⟩
theorem w_284 : Cond.instantiable "ProxyVotes$History" 3 ∈ kWG := List.mem_filter.mpr ⟨List.mem_of_getElem? (i := 284) (by decide +kernel), rfl⟩
theorem w_286 : Cond.instanceMethod ⟨"ProxyVotes$History", "<init>", "()V"⟩ ∈ kWG := List.mem_filter.mpr ⟨List.mem_of_getElem? (i := 286) (by decide +kernel), rfl⟩
theorem w_287 : Cond.code ⟨"ProxyVotes$History", "<init>", "()V"⟩ prog_4_method_1_code 2 none ∈ kWG := List.mem_filter.mpr ⟨List.mem_of_getElem? (i := 287) (by decide +kernel), rfl⟩
theorem w_288 : Cond.methodLink "ProxyVotes$History" 3 ⟨"java/lang/Object", "<init>", "()V"⟩ ∈ kWG := List.mem_filter.mpr ⟨List.mem_of_getElem? (i := 288) (by decide +kernel), rfl⟩
theorem w_289 : Cond.classLink "ProxyVotes$History" 9 "ProxyVotes$Committee" ∈ kWG := List.mem_filter.mpr ⟨List.mem_of_getElem? (i := 289) (by decide +kernel), rfl⟩
theorem w_292 : Cond.fieldLink "ProxyVotes$History" 11 "ProxyVotes$History" "states" "[LProxyVotes$Committee;" ∈ kWG := List.mem_filter.mpr ⟨List.mem_of_getElem? (i := 292) (by decide +kernel), rfl⟩
theorem w_293 : Cond.fieldLink "ProxyVotes$History" 18 "ProxyVotes$History" "spare" "I" ∈ kWG := List.mem_filter.mpr ⟨List.mem_of_getElem? (i := 293) (by decide +kernel), rfl⟩
theorem w_294 : Cond.fieldLink "ProxyVotes$History" 30 "ProxyVotes$History" "kept" "I" ∈ kWG := List.mem_filter.mpr ⟨List.mem_of_getElem? (i := 294) (by decide +kernel), rfl⟩
theorem w_296 : Cond.laysFinal "ProxyVotes$History" "ProxyVotes$History" "states" "[LProxyVotes$Committee;" ∈ kWG := List.mem_filter.mpr ⟨List.mem_of_getElem? (i := 296) (by decide +kernel), rfl⟩
theorem w_298 : Cond.lays "ProxyVotes$History" "ProxyVotes$History" "spare" "I" ∈ kWG := List.mem_filter.mpr ⟨List.mem_of_getElem? (i := 298) (by decide +kernel), rfl⟩
theorem w_300 : Cond.lays "ProxyVotes$History" "ProxyVotes$History" "kept" "I" ∈ kWG := List.mem_filter.mpr ⟨List.mem_of_getElem? (i := 300) (by decide +kernel), rfl⟩
theorem w_303 : Cond.classLink "ProxyVotes" 33 "ProxyVotes$Pad" ∈ kWG := List.mem_filter.mpr ⟨List.mem_of_getElem? (i := 303) (by decide +kernel), rfl⟩
theorem w_304 : Cond.instantiable "ProxyVotes$Pad" 7 ∈ kWG := List.mem_filter.mpr ⟨List.mem_of_getElem? (i := 304) (by decide +kernel), rfl⟩
theorem w_306 : Cond.instanceMethod ⟨"ProxyVotes$Pad", "<init>", "()V"⟩ ∈ kWG := List.mem_filter.mpr ⟨List.mem_of_getElem? (i := 306) (by decide +kernel), rfl⟩
theorem w_307 : Cond.code ⟨"ProxyVotes$Pad", "<init>", "()V"⟩ prog_7_method_1_code 1 none ∈ kWG := List.mem_filter.mpr ⟨List.mem_of_getElem? (i := 307) (by decide +kernel), rfl⟩
theorem w_308 : Cond.methodLink "ProxyVotes$Pad" 3 ⟨"java/lang/Object", "<init>", "()V"⟩ ∈ kWG := List.mem_filter.mpr ⟨List.mem_of_getElem? (i := 308) (by decide +kernel), rfl⟩
theorem w_309 : Cond.fieldLink "ProxyVotes$Pad" 9 "ProxyVotes$Pad" "text" "[C" ∈ kWG := List.mem_filter.mpr ⟨List.mem_of_getElem? (i := 309) (by decide +kernel), rfl⟩
theorem w_310 : Cond.fieldLink "ProxyVotes$Pad" 31 "ProxyVotes$Pad" "length" "I" ∈ kWG := List.mem_filter.mpr ⟨List.mem_of_getElem? (i := 310) (by decide +kernel), rfl⟩
theorem w_312 : Cond.fieldLink "ProxyVotes$Pad" 35 "ProxyVotes$Pad" "place" "I" ∈ kWG := List.mem_filter.mpr ⟨List.mem_of_getElem? (i := 312) (by decide +kernel), rfl⟩
theorem w_313 : Cond.fieldLink "ProxyVotes$Pad" 38 "ProxyVotes$Pad" "orders" "I" ∈ kWG := List.mem_filter.mpr ⟨List.mem_of_getElem? (i := 313) (by decide +kernel), rfl⟩
theorem w_315 : Cond.fieldLink "ProxyVotes$Pad" 15 "ProxyVotes$Pad" "signs" "[C" ∈ kWG := List.mem_filter.mpr ⟨List.mem_of_getElem? (i := 315) (by decide +kernel), rfl⟩
theorem w_317 : Cond.fieldLink "ProxyVotes$Pad" 18 "ProxyVotes$Pad" "members" "[I" ∈ kWG := List.mem_filter.mpr ⟨List.mem_of_getElem? (i := 317) (by decide +kernel), rfl⟩
theorem w_319 : Cond.fieldLink "ProxyVotes$Pad" 22 "ProxyVotes$Pad" "numbers" "[I" ∈ kWG := List.mem_filter.mpr ⟨List.mem_of_getElem? (i := 319) (by decide +kernel), rfl⟩
theorem w_321 : Cond.laysFinal "ProxyVotes$Pad" "ProxyVotes$Pad" "text" "[C" ∈ kWG := List.mem_filter.mpr ⟨List.mem_of_getElem? (i := 321) (by decide +kernel), rfl⟩
theorem w_323 : Cond.lays "ProxyVotes$Pad" "ProxyVotes$Pad" "length" "I" ∈ kWG := List.mem_filter.mpr ⟨List.mem_of_getElem? (i := 323) (by decide +kernel), rfl⟩
theorem w_325 : Cond.lays "ProxyVotes$Pad" "ProxyVotes$Pad" "place" "I" ∈ kWG := List.mem_filter.mpr ⟨List.mem_of_getElem? (i := 325) (by decide +kernel), rfl⟩
theorem w_327 : Cond.lays "ProxyVotes$Pad" "ProxyVotes$Pad" "orders" "I" ∈ kWG := List.mem_filter.mpr ⟨List.mem_of_getElem? (i := 327) (by decide +kernel), rfl⟩
theorem w_329 : Cond.laysFinal "ProxyVotes$Pad" "ProxyVotes$Pad" "signs" "[C" ∈ kWG := List.mem_filter.mpr ⟨List.mem_of_getElem? (i := 329) (by decide +kernel), rfl⟩
theorem w_331 : Cond.laysFinal "ProxyVotes$Pad" "ProxyVotes$Pad" "members" "[I" ∈ kWG := List.mem_filter.mpr ⟨List.mem_of_getElem? (i := 331) (by decide +kernel), rfl⟩
theorem w_333 : Cond.laysFinal "ProxyVotes$Pad" "ProxyVotes$Pad" "numbers" "[I" ∈ kWG := List.mem_filter.mpr ⟨List.mem_of_getElem? (i := 333) (by decide +kernel), rfl⟩
theorem w_336 : Cond.arrayClass FieldType.char ∈ kWG := List.mem_filter.mpr ⟨List.mem_of_getElem? (i := 336) (by decide +kernel), rfl⟩
theorem w_337 : Cond.fieldLink "ProxyVotes" 10 "ProxyVotes" "now" "LProxyVotes$Committee;" ∈ kWG := List.mem_filter.mpr ⟨List.mem_of_getElem? (i := 337) (by decide +kernel), rfl⟩
theorem w_338 : Cond.fieldLink "ProxyVotes" 16 "ProxyVotes" "trial" "LProxyVotes$Committee;" ∈ kWG := List.mem_filter.mpr ⟨List.mem_of_getElem? (i := 338) (by decide +kernel), rfl⟩
theorem w_339 : Cond.fieldLink "ProxyVotes" 22 "ProxyVotes" "hearing" "LProxyVotes$Hearing;" ∈ kWG := List.mem_filter.mpr ⟨List.mem_of_getElem? (i := 339) (by decide +kernel), rfl⟩
theorem w_340 : Cond.fieldLink "ProxyVotes" 29 "ProxyVotes" "history" "LProxyVotes$History;" ∈ kWG := List.mem_filter.mpr ⟨List.mem_of_getElem? (i := 340) (by decide +kernel), rfl⟩
theorem w_341 : Cond.fieldLink "ProxyVotes" 36 "ProxyVotes" "pad" "LProxyVotes$Pad;" ∈ kWG := List.mem_filter.mpr ⟨List.mem_of_getElem? (i := 341) (by decide +kernel), rfl⟩
theorem w_342 : Cond.fieldLink "ProxyVotes" 40 "ProxyVotes" "slots" "[LProxyVotes$Committee;" ∈ kWG := List.mem_filter.mpr ⟨List.mem_of_getElem? (i := 342) (by decide +kernel), rfl⟩
theorem w_343 : Cond.fieldLink "ProxyVotes" 44 "ProxyVotes" "saved" "[Z" ∈ kWG := List.mem_filter.mpr ⟨List.mem_of_getElem? (i := 343) (by decide +kernel), rfl⟩
theorem w_344 : Cond.fieldLink "ProxyVotes" 48 "ProxyVotes" "gains" "[I" ∈ kWG := List.mem_filter.mpr ⟨List.mem_of_getElem? (i := 344) (by decide +kernel), rfl⟩
theorem w_345 : Cond.fieldLink "ProxyVotes" 52 "ProxyVotes" "setsOfWeight" "[I" ∈ kWG := List.mem_filter.mpr ⟨List.mem_of_getElem? (i := 345) (by decide +kernel), rfl⟩
theorem w_346 : Cond.laysFinal "ProxyVotes" "ProxyVotes" "now" "LProxyVotes$Committee;" ∈ kWG := List.mem_filter.mpr ⟨List.mem_of_getElem? (i := 346) (by decide +kernel), rfl⟩
theorem w_348 : Cond.laysFinal "ProxyVotes" "ProxyVotes" "trial" "LProxyVotes$Committee;" ∈ kWG := List.mem_filter.mpr ⟨List.mem_of_getElem? (i := 348) (by decide +kernel), rfl⟩
theorem w_350 : Cond.laysFinal "ProxyVotes" "ProxyVotes" "hearing" "LProxyVotes$Hearing;" ∈ kWG := List.mem_filter.mpr ⟨List.mem_of_getElem? (i := 350) (by decide +kernel), rfl⟩
theorem w_352 : Cond.laysFinal "ProxyVotes" "ProxyVotes" "history" "LProxyVotes$History;" ∈ kWG := List.mem_filter.mpr ⟨List.mem_of_getElem? (i := 352) (by decide +kernel), rfl⟩
theorem w_354 : Cond.laysFinal "ProxyVotes" "ProxyVotes" "pad" "LProxyVotes$Pad;" ∈ kWG := List.mem_filter.mpr ⟨List.mem_of_getElem? (i := 354) (by decide +kernel), rfl⟩
theorem w_356 : Cond.laysFinal "ProxyVotes" "ProxyVotes" "slots" "[LProxyVotes$Committee;" ∈ kWG := List.mem_filter.mpr ⟨List.mem_of_getElem? (i := 356) (by decide +kernel), rfl⟩
theorem w_358 : Cond.laysFinal "ProxyVotes" "ProxyVotes" "saved" "[Z" ∈ kWG := List.mem_filter.mpr ⟨List.mem_of_getElem? (i := 358) (by decide +kernel), rfl⟩
theorem w_360 : Cond.laysFinal "ProxyVotes" "ProxyVotes" "gains" "[I" ∈ kWG := List.mem_filter.mpr ⟨List.mem_of_getElem? (i := 360) (by decide +kernel), rfl⟩
theorem w_362 : Cond.laysFinal "ProxyVotes" "ProxyVotes" "setsOfWeight" "[I" ∈ kWG := List.mem_filter.mpr ⟨List.mem_of_getElem? (i := 362) (by decide +kernel), rfl⟩
theorem w_365 : Cond.arrayClass FieldType.boolean ∈ kWG := List.mem_filter.mpr ⟨List.mem_of_getElem? (i := 365) (by decide +kernel), rfl⟩
theorem w_366 : Cond.methodLink "ProxyVotesLaw" 13 ⟨"ProxyVotes", "set", "(II)I"⟩ ∈ kWG := List.mem_filter.mpr ⟨List.mem_of_getElem? (i := 366) (by decide +kernel), rfl⟩
theorem w_367 : Cond.instanceMethod ⟨"ProxyVotes", "set", "(II)I"⟩ ∈ kWG := List.mem_filter.mpr ⟨List.mem_of_getElem? (i := 367) (by decide +kernel), rfl⟩
theorem w_368 : Cond.selects "ProxyVotes" ⟨"ProxyVotes", "set", "(II)I"⟩ ⟨"ProxyVotes", "set", "(II)I"⟩ ∈ kWG := List.mem_filter.mpr ⟨List.mem_of_getElem? (i := 368) (by decide +kernel), rfl⟩
theorem w_369 : Cond.code ⟨"ProxyVotes", "set", "(II)I"⟩ prog_1_method_2_code 3 (some FieldType.int) ∈ kWG := List.mem_filter.mpr ⟨List.mem_of_getElem? (i := 369) (by decide +kernel), rfl⟩
theorem w_372 : Cond.instanceMethod ⟨"ProxyVotes$History", "note", "(LProxyVotes$Committee;)V"⟩ ∈ kWG := List.mem_filter.mpr ⟨List.mem_of_getElem? (i := 372) (by decide +kernel), rfl⟩
theorem w_373 : Cond.code ⟨"ProxyVotes$History", "note", "(LProxyVotes$Committee;)V"⟩ prog_4_method_2_code 2 none ∈ kWG := List.mem_filter.mpr ⟨List.mem_of_getElem? (i := 373) (by decide +kernel), rfl⟩
theorem w_376 : Cond.instanceMethod ⟨"ProxyVotes$Committee", "copyFrom", "(LProxyVotes$Committee;)V"⟩ ∈ kWG := List.mem_filter.mpr ⟨List.mem_of_getElem? (i := 376) (by decide +kernel), rfl⟩
theorem w_377 : Cond.code ⟨"ProxyVotes$Committee", "copyFrom", "(LProxyVotes$Committee;)V"⟩ prog_2_method_2_code 3 none ∈ kWG := List.mem_filter.mpr ⟨List.mem_of_getElem? (i := 377) (by decide +kernel), rfl⟩
theorem w_380 : Cond.instanceMethod ⟨"ProxyVotes$Item", "copyFrom", "(LProxyVotes$Item;)V"⟩ ∈ kWG := List.mem_filter.mpr ⟨List.mem_of_getElem? (i := 380) (by decide +kernel), rfl⟩
theorem w_381 : Cond.code ⟨"ProxyVotes$Item", "copyFrom", "(LProxyVotes$Item;)V"⟩ prog_5_method_3_code 2 none ∈ kWG := List.mem_filter.mpr ⟨List.mem_of_getElem? (i := 381) (by decide +kernel), rfl⟩
theorem w_382 : Cond.methodLink "ProxyVotes$Item" 49 ⟨"java/lang/System", "arraycopy", "(Ljava/lang/Object;ILjava/lang/Object;II)V"⟩ ∈ kWG := List.mem_filter.mpr ⟨List.mem_of_getElem? (i := 382) (by decide +kernel), rfl⟩
theorem w_385 : Cond.instanceMethod ⟨"ProxyVotes$Movements", "copyFrom", "(LProxyVotes$Movements;)V"⟩ ∈ kWG := List.mem_filter.mpr ⟨List.mem_of_getElem? (i := 385) (by decide +kernel), rfl⟩
theorem w_386 : Cond.code ⟨"ProxyVotes$Movements", "copyFrom", "(LProxyVotes$Movements;)V"⟩ prog_6_method_5_code 2 none ∈ kWG := List.mem_filter.mpr ⟨List.mem_of_getElem? (i := 386) (by decide +kernel), rfl⟩
theorem w_387 : Cond.methodLink "ProxyVotes$Movements" 25 ⟨"java/lang/System", "arraycopy", "(Ljava/lang/Object;ILjava/lang/Object;II)V"⟩ ∈ kWG := List.mem_filter.mpr ⟨List.mem_of_getElem? (i := 387) (by decide +kernel), rfl⟩
theorem w_390 : Cond.instanceMethod ⟨"ProxyVotes$Committee", "changeSetting", "(II)I"⟩ ∈ kWG := List.mem_filter.mpr ⟨List.mem_of_getElem? (i := 390) (by decide +kernel), rfl⟩
theorem w_391 : Cond.code ⟨"ProxyVotes$Committee", "changeSetting", "(II)I"⟩ prog_2_method_16_code 4 (some FieldType.int) ∈ kWG := List.mem_filter.mpr ⟨List.mem_of_getElem? (i := 391) (by decide +kernel), rfl⟩
theorem w_396 : Cond.instanceMethod ⟨"ProxyVotes$History", "settle", "(I)I"⟩ ∈ kWG := List.mem_filter.mpr ⟨List.mem_of_getElem? (i := 396) (by decide +kernel), rfl⟩
theorem w_397 : Cond.code ⟨"ProxyVotes$History", "settle", "(I)I"⟩ prog_4_method_3_code 2 (some FieldType.int) ∈ kWG := List.mem_filter.mpr ⟨List.mem_of_getElem? (i := 397) (by decide +kernel), rfl⟩
theorem w_399 : Cond.static ⟨"ProxyVotes", "isError", "(I)Z"⟩ ∈ kWG := List.mem_filter.mpr ⟨List.mem_of_getElem? (i := 399) (by decide +kernel), rfl⟩
theorem w_400 : Cond.code ⟨"ProxyVotes", "isError", "(I)Z"⟩ prog_1_method_41_code 1 (some FieldType.boolean) ∈ kWG := List.mem_filter.mpr ⟨List.mem_of_getElem? (i := 400) (by decide +kernel), rfl⟩
theorem w_401 : Cond.methodLink "ProxyVotes$History" 33 ⟨"java/lang/Math", "min", "(II)I"⟩ ∈ kWG := List.mem_filter.mpr ⟨List.mem_of_getElem? (i := 401) (by decide +kernel), rfl⟩
theorem w_402 : Cond.static ⟨"java/lang/Math", "min", "(II)I"⟩ ∈ kWG := List.mem_filter.mpr ⟨List.mem_of_getElem? (i := 402) (by decide +kernel), rfl⟩
theorem w_403 : Cond.code ⟨"java/lang/Math", "min", "(II)I"⟩ prog_11_method_69_code 2 (some FieldType.int) ∈ kWG := List.mem_filter.mpr ⟨List.mem_of_getElem? (i := 403) (by decide +kernel), rfl⟩
theorem w_404 : Cond.methodLink "ProxyVotesLaw" 18 ⟨"ProxyVotes", "member", "(II)I"⟩ ∈ kWG := List.mem_filter.mpr ⟨List.mem_of_getElem? (i := 404) (by decide +kernel), rfl⟩
theorem w_405 : Cond.instanceMethod ⟨"ProxyVotes", "member", "(II)I"⟩ ∈ kWG := List.mem_filter.mpr ⟨List.mem_of_getElem? (i := 405) (by decide +kernel), rfl⟩
theorem w_406 : Cond.selects "ProxyVotes" ⟨"ProxyVotes", "member", "(II)I"⟩ ⟨"ProxyVotes", "member", "(II)I"⟩ ∈ kWG := List.mem_filter.mpr ⟨List.mem_of_getElem? (i := 406) (by decide +kernel), rfl⟩
theorem w_407 : Cond.code ⟨"ProxyVotes", "member", "(II)I"⟩ prog_1_method_3_code 3 (some FieldType.int) ∈ kWG := List.mem_filter.mpr ⟨List.mem_of_getElem? (i := 407) (by decide +kernel), rfl⟩
theorem w_410 : Cond.instanceMethod ⟨"ProxyVotes$Committee", "addMember", "(II)I"⟩ ∈ kWG := List.mem_filter.mpr ⟨List.mem_of_getElem? (i := 410) (by decide +kernel), rfl⟩
theorem w_411 : Cond.code ⟨"ProxyVotes$Committee", "addMember", "(II)I"⟩ prog_2_method_17_code 3 (some FieldType.int) ∈ kWG := List.mem_filter.mpr ⟨List.mem_of_getElem? (i := 411) (by decide +kernel), rfl⟩
theorem w_412 : Cond.methodLink "ProxyVotesLaw" 22 ⟨"ProxyVotes", "item", "(II)I"⟩ ∈ kWG := List.mem_filter.mpr ⟨List.mem_of_getElem? (i := 412) (by decide +kernel), rfl⟩
theorem w_413 : Cond.instanceMethod ⟨"ProxyVotes", "item", "(II)I"⟩ ∈ kWG := List.mem_filter.mpr ⟨List.mem_of_getElem? (i := 413) (by decide +kernel), rfl⟩
theorem w_414 : Cond.selects "ProxyVotes" ⟨"ProxyVotes", "item", "(II)I"⟩ ⟨"ProxyVotes", "item", "(II)I"⟩ ∈ kWG := List.mem_filter.mpr ⟨List.mem_of_getElem? (i := 414) (by decide +kernel), rfl⟩
theorem w_415 : Cond.code ⟨"ProxyVotes", "item", "(II)I"⟩ prog_1_method_4_code 3 (some FieldType.int) ∈ kWG := List.mem_filter.mpr ⟨List.mem_of_getElem? (i := 415) (by decide +kernel), rfl⟩
theorem w_418 : Cond.instanceMethod ⟨"ProxyVotes$Committee", "addItem", "(II)I"⟩ ∈ kWG := List.mem_filter.mpr ⟨List.mem_of_getElem? (i := 418) (by decide +kernel), rfl⟩
theorem w_419 : Cond.code ⟨"ProxyVotes$Committee", "addItem", "(II)I"⟩ prog_2_method_18_code 3 (some FieldType.int) ∈ kWG := List.mem_filter.mpr ⟨List.mem_of_getElem? (i := 419) (by decide +kernel), rfl⟩
theorem w_422 : Cond.instanceMethod ⟨"ProxyVotes$Item", "begin", "(II)V"⟩ ∈ kWG := List.mem_filter.mpr ⟨List.mem_of_getElem? (i := 422) (by decide +kernel), rfl⟩
theorem w_423 : Cond.code ⟨"ProxyVotes$Item", "begin", "(II)V"⟩ prog_5_method_2_code 3 none ∈ kWG := List.mem_filter.mpr ⟨List.mem_of_getElem? (i := 423) (by decide +kernel), rfl⟩
theorem w_424 : Cond.methodLink "ProxyVotes$Item" 43 ⟨"java/util/Arrays", "fill", "([II)V"⟩ ∈ kWG := List.mem_filter.mpr ⟨List.mem_of_getElem? (i := 424) (by decide +kernel), rfl⟩
theorem w_425 : Cond.static ⟨"java/util/Arrays", "fill", "([II)V"⟩ ∈ kWG := List.mem_filter.mpr ⟨List.mem_of_getElem? (i := 425) (by decide +kernel), rfl⟩
theorem w_426 : Cond.code ⟨"java/util/Arrays", "fill", "([II)V"⟩ prog_13_method_103_code 4 none ∈ kWG := List.mem_filter.mpr ⟨List.mem_of_getElem? (i := 426) (by decide +kernel), rfl⟩
theorem w_427 : Cond.methodLink "ProxyVotesLaw" 26 ⟨"ProxyVotes", "chair", "(I)I"⟩ ∈ kWG := List.mem_filter.mpr ⟨List.mem_of_getElem? (i := 427) (by decide +kernel), rfl⟩
theorem w_428 : Cond.instanceMethod ⟨"ProxyVotes", "chair", "(I)I"⟩ ∈ kWG := List.mem_filter.mpr ⟨List.mem_of_getElem? (i := 428) (by decide +kernel), rfl⟩
theorem w_429 : Cond.selects "ProxyVotes" ⟨"ProxyVotes", "chair", "(I)I"⟩ ⟨"ProxyVotes", "chair", "(I)I"⟩ ∈ kWG := List.mem_filter.mpr ⟨List.mem_of_getElem? (i := 429) (by decide +kernel), rfl⟩
theorem w_430 : Cond.code ⟨"ProxyVotes", "chair", "(I)I"⟩ prog_1_method_5_code 2 (some FieldType.int) ∈ kWG := List.mem_filter.mpr ⟨List.mem_of_getElem? (i := 430) (by decide +kernel), rfl⟩
theorem w_433 : Cond.instanceMethod ⟨"ProxyVotes$Committee", "nameChair", "(I)I"⟩ ∈ kWG := List.mem_filter.mpr ⟨List.mem_of_getElem? (i := 433) (by decide +kernel), rfl⟩
theorem w_434 : Cond.code ⟨"ProxyVotes$Committee", "nameChair", "(I)I"⟩ prog_2_method_19_code 3 (some FieldType.int) ∈ kWG := List.mem_filter.mpr ⟨List.mem_of_getElem? (i := 434) (by decide +kernel), rfl⟩
theorem w_435 : Cond.methodLink "ProxyVotes$Committee" 105 ⟨"ProxyVotes$Committee", "hasMember", "(I)Z"⟩ ∈ kWG := List.mem_filter.mpr ⟨List.mem_of_getElem? (i := 435) (by decide +kernel), rfl⟩
theorem w_437 : Cond.instanceMethod ⟨"ProxyVotes$Committee", "hasMember", "(I)Z"⟩ ∈ kWG := List.mem_filter.mpr ⟨List.mem_of_getElem? (i := 437) (by decide +kernel), rfl⟩
theorem w_438 : Cond.code ⟨"ProxyVotes$Committee", "hasMember", "(I)Z"⟩ prog_2_method_3_code 2 (some FieldType.boolean) ∈ kWG := List.mem_filter.mpr ⟨List.mem_of_getElem? (i := 438) (by decide +kernel), rfl⟩
theorem w_439 : Cond.methodLink "ProxyVotesLaw" 31 ⟨"ProxyVotes", "come", "(I)I"⟩ ∈ kWG := List.mem_filter.mpr ⟨List.mem_of_getElem? (i := 439) (by decide +kernel), rfl⟩
theorem w_440 : Cond.instanceMethod ⟨"ProxyVotes", "come", "(I)I"⟩ ∈ kWG := List.mem_filter.mpr ⟨List.mem_of_getElem? (i := 440) (by decide +kernel), rfl⟩
theorem w_441 : Cond.selects "ProxyVotes" ⟨"ProxyVotes", "come", "(I)I"⟩ ⟨"ProxyVotes", "come", "(I)I"⟩ ∈ kWG := List.mem_filter.mpr ⟨List.mem_of_getElem? (i := 441) (by decide +kernel), rfl⟩
theorem w_442 : Cond.code ⟨"ProxyVotes", "come", "(I)I"⟩ prog_1_method_6_code 2 (some FieldType.int) ∈ kWG := List.mem_filter.mpr ⟨List.mem_of_getElem? (i := 442) (by decide +kernel), rfl⟩
theorem w_445 : Cond.instanceMethod ⟨"ProxyVotes$Committee", "bringIn", "(I)I"⟩ ∈ kWG := List.mem_filter.mpr ⟨List.mem_of_getElem? (i := 445) (by decide +kernel), rfl⟩
theorem w_446 : Cond.code ⟨"ProxyVotes$Committee", "bringIn", "(I)I"⟩ prog_2_method_20_code 2 (some FieldType.int) ∈ kWG := List.mem_filter.mpr ⟨List.mem_of_getElem? (i := 446) (by decide +kernel), rfl⟩
theorem w_447 : Cond.methodLink "ProxyVotes$Committee" 76 ⟨"ProxyVotes$Committee", "isPresent", "(I)Z"⟩ ∈ kWG := List.mem_filter.mpr ⟨List.mem_of_getElem? (i := 447) (by decide +kernel), rfl⟩
theorem w_449 : Cond.instanceMethod ⟨"ProxyVotes$Committee", "isPresent", "(I)Z"⟩ ∈ kWG := List.mem_filter.mpr ⟨List.mem_of_getElem? (i := 449) (by decide +kernel), rfl⟩
theorem w_450 : Cond.code ⟨"ProxyVotes$Committee", "isPresent", "(I)Z"⟩ prog_2_method_5_code 2 (some FieldType.boolean) ∈ kWG := List.mem_filter.mpr ⟨List.mem_of_getElem? (i := 450) (by decide +kernel), rfl⟩
theorem w_451 : Cond.methodLink "ProxyVotes$Committee" 108 ⟨"java/lang/Integer", "bitCount", "(I)I"⟩ ∈ kWG := List.mem_filter.mpr ⟨List.mem_of_getElem? (i := 451) (by decide +kernel), rfl⟩
theorem w_452 : Cond.static ⟨"java/lang/Integer", "bitCount", "(I)I"⟩ ∈ kWG := List.mem_filter.mpr ⟨List.mem_of_getElem? (i := 452) (by decide +kernel), rfl⟩
theorem w_453 : Cond.code ⟨"java/lang/Integer", "bitCount", "(I)I"⟩ prog_10_method_49_code 1 (some FieldType.int) ∈ kWG := List.mem_filter.mpr ⟨List.mem_of_getElem? (i := 453) (by decide +kernel), rfl⟩
theorem w_454 : Cond.constant "java/lang/Integer" 265 (1431655765) ∈ kWG := List.mem_filter.mpr ⟨List.mem_of_getElem? (i := 454) (by decide +kernel), rfl⟩
theorem w_455 : Cond.constant "java/lang/Integer" 266 (858993459) ∈ kWG := List.mem_filter.mpr ⟨List.mem_of_getElem? (i := 455) (by decide +kernel), rfl⟩
theorem w_456 : Cond.constant "java/lang/Integer" 267 (252645135) ∈ kWG := List.mem_filter.mpr ⟨List.mem_of_getElem? (i := 456) (by decide +kernel), rfl⟩
theorem w_457 : Cond.methodLink "ProxyVotesLaw" 35 ⟨"ProxyVotes", "go", "(I)I"⟩ ∈ kWG := List.mem_filter.mpr ⟨List.mem_of_getElem? (i := 457) (by decide +kernel), rfl⟩
theorem w_458 : Cond.instanceMethod ⟨"ProxyVotes", "go", "(I)I"⟩ ∈ kWG := List.mem_filter.mpr ⟨List.mem_of_getElem? (i := 458) (by decide +kernel), rfl⟩
theorem w_459 : Cond.selects "ProxyVotes" ⟨"ProxyVotes", "go", "(I)I"⟩ ⟨"ProxyVotes", "go", "(I)I"⟩ ∈ kWG := List.mem_filter.mpr ⟨List.mem_of_getElem? (i := 459) (by decide +kernel), rfl⟩
theorem w_460 : Cond.code ⟨"ProxyVotes", "go", "(I)I"⟩ prog_1_method_7_code 2 (some FieldType.int) ∈ kWG := List.mem_filter.mpr ⟨List.mem_of_getElem? (i := 460) (by decide +kernel), rfl⟩
theorem w_463 : Cond.instanceMethod ⟨"ProxyVotes$Committee", "sendAway", "(I)I"⟩ ∈ kWG := List.mem_filter.mpr ⟨List.mem_of_getElem? (i := 463) (by decide +kernel), rfl⟩
theorem w_464 : Cond.code ⟨"ProxyVotes$Committee", "sendAway", "(I)I"⟩ prog_2_method_21_code 2 (some FieldType.int) ∈ kWG := List.mem_filter.mpr ⟨List.mem_of_getElem? (i := 464) (by decide +kernel), rfl⟩
theorem w_465 : Cond.methodLink "ProxyVotesLaw" 39 ⟨"ProxyVotes", "later", "(III)I"⟩ ∈ kWG := List.mem_filter.mpr ⟨List.mem_of_getElem? (i := 465) (by decide +kernel), rfl⟩
theorem w_466 : Cond.instanceMethod ⟨"ProxyVotes", "later", "(III)I"⟩ ∈ kWG := List.mem_filter.mpr ⟨List.mem_of_getElem? (i := 466) (by decide +kernel), rfl⟩
theorem w_467 : Cond.selects "ProxyVotes" ⟨"ProxyVotes", "later", "(III)I"⟩ ⟨"ProxyVotes", "later", "(III)I"⟩ ∈ kWG := List.mem_filter.mpr ⟨List.mem_of_getElem? (i := 467) (by decide +kernel), rfl⟩
theorem w_468 : Cond.code ⟨"ProxyVotes", "later", "(III)I"⟩ prog_1_method_8_code 4 (some FieldType.int) ∈ kWG := List.mem_filter.mpr ⟨List.mem_of_getElem? (i := 468) (by decide +kernel), rfl⟩
theorem w_471 : Cond.instanceMethod ⟨"ProxyVotes$Committee", "addMovement", "(III)I"⟩ ∈ kWG := List.mem_filter.mpr ⟨List.mem_of_getElem? (i := 471) (by decide +kernel), rfl⟩
theorem w_472 : Cond.code ⟨"ProxyVotes$Committee", "addMovement", "(III)I"⟩ prog_2_method_22_code 4 (some FieldType.int) ∈ kWG := List.mem_filter.mpr ⟨List.mem_of_getElem? (i := 472) (by decide +kernel), rfl⟩
theorem w_475 : Cond.instanceMethod ⟨"ProxyVotes$Movements", "append", "(III)V"⟩ ∈ kWG := List.mem_filter.mpr ⟨List.mem_of_getElem? (i := 475) (by decide +kernel), rfl⟩
theorem w_476 : Cond.code ⟨"ProxyVotes$Movements", "append", "(III)V"⟩ prog_6_method_2_code 4 none ∈ kWG := List.mem_filter.mpr ⟨List.mem_of_getElem? (i := 476) (by decide +kernel), rfl⟩
theorem w_477 : Cond.methodLink "ProxyVotesLaw" 44 ⟨"ProxyVotes", "proxy", "(III)I"⟩ ∈ kWG := List.mem_filter.mpr ⟨List.mem_of_getElem? (i := 477) (by decide +kernel), rfl⟩
theorem w_478 : Cond.instanceMethod ⟨"ProxyVotes", "proxy", "(III)I"⟩ ∈ kWG := List.mem_filter.mpr ⟨List.mem_of_getElem? (i := 478) (by decide +kernel), rfl⟩
theorem w_479 : Cond.selects "ProxyVotes" ⟨"ProxyVotes", "proxy", "(III)I"⟩ ⟨"ProxyVotes", "proxy", "(III)I"⟩ ∈ kWG := List.mem_filter.mpr ⟨List.mem_of_getElem? (i := 479) (by decide +kernel), rfl⟩
theorem w_480 : Cond.code ⟨"ProxyVotes", "proxy", "(III)I"⟩ prog_1_method_9_code 4 (some FieldType.int) ∈ kWG := List.mem_filter.mpr ⟨List.mem_of_getElem? (i := 480) (by decide +kernel), rfl⟩
theorem w_483 : Cond.instanceMethod ⟨"ProxyVotes$Committee", "nameHolder", "(III)I"⟩ ∈ kWG := List.mem_filter.mpr ⟨List.mem_of_getElem? (i := 483) (by decide +kernel), rfl⟩
theorem w_484 : Cond.code ⟨"ProxyVotes$Committee", "nameHolder", "(III)I"⟩ prog_2_method_23_code 9 (some FieldType.int) ∈ kWG := List.mem_filter.mpr ⟨List.mem_of_getElem? (i := 484) (by decide +kernel), rfl⟩
theorem w_485 : Cond.methodLink "ProxyVotes$Committee" 121 ⟨"ProxyVotes$Committee", "hasItem", "(I)Z"⟩ ∈ kWG := List.mem_filter.mpr ⟨List.mem_of_getElem? (i := 485) (by decide +kernel), rfl⟩
theorem w_487 : Cond.instanceMethod ⟨"ProxyVotes$Committee", "hasItem", "(I)Z"⟩ ∈ kWG := List.mem_filter.mpr ⟨List.mem_of_getElem? (i := 487) (by decide +kernel), rfl⟩
theorem w_488 : Cond.code ⟨"ProxyVotes$Committee", "hasItem", "(I)Z"⟩ prog_2_method_4_code 2 (some FieldType.boolean) ∈ kWG := List.mem_filter.mpr ⟨List.mem_of_getElem? (i := 488) (by decide +kernel), rfl⟩
theorem w_489 : Cond.methodLink "ProxyVotesLaw" 48 ⟨"ProxyVotes", "tell", "(III)I"⟩ ∈ kWG := List.mem_filter.mpr ⟨List.mem_of_getElem? (i := 489) (by decide +kernel), rfl⟩
theorem w_490 : Cond.instanceMethod ⟨"ProxyVotes", "tell", "(III)I"⟩ ∈ kWG := List.mem_filter.mpr ⟨List.mem_of_getElem? (i := 490) (by decide +kernel), rfl⟩
theorem w_491 : Cond.selects "ProxyVotes" ⟨"ProxyVotes", "tell", "(III)I"⟩ ⟨"ProxyVotes", "tell", "(III)I"⟩ ∈ kWG := List.mem_filter.mpr ⟨List.mem_of_getElem? (i := 491) (by decide +kernel), rfl⟩
theorem w_492 : Cond.code ⟨"ProxyVotes", "tell", "(III)I"⟩ prog_1_method_10_code 4 (some FieldType.int) ∈ kWG := List.mem_filter.mpr ⟨List.mem_of_getElem? (i := 492) (by decide +kernel), rfl⟩
theorem w_495 : Cond.instanceMethod ⟨"ProxyVotes$Committee", "tellChoice", "(III)I"⟩ ∈ kWG := List.mem_filter.mpr ⟨List.mem_of_getElem? (i := 495) (by decide +kernel), rfl⟩
theorem w_496 : Cond.code ⟨"ProxyVotes$Committee", "tellChoice", "(III)I"⟩ prog_2_method_24_code 5 (some FieldType.int) ∈ kWG := List.mem_filter.mpr ⟨List.mem_of_getElem? (i := 496) (by decide +kernel), rfl⟩
theorem w_498 : Cond.static ⟨"ProxyVotes", "isChoice", "(I)Z"⟩ ∈ kWG := List.mem_filter.mpr ⟨List.mem_of_getElem? (i := 498) (by decide +kernel), rfl⟩
theorem w_499 : Cond.code ⟨"ProxyVotes", "isChoice", "(I)Z"⟩ prog_1_method_42_code 1 (some FieldType.boolean) ∈ kWG := List.mem_filter.mpr ⟨List.mem_of_getElem? (i := 499) (by decide +kernel), rfl⟩
theorem w_502 : Cond.instanceMethod ⟨"ProxyVotes$Item", "isPending", "()Z"⟩ ∈ kWG := List.mem_filter.mpr ⟨List.mem_of_getElem? (i := 502) (by decide +kernel), rfl⟩
theorem w_503 : Cond.code ⟨"ProxyVotes$Item", "isPending", "()Z"⟩ prog_5_method_4_code 1 (some FieldType.boolean) ∈ kWG := List.mem_filter.mpr ⟨List.mem_of_getElem? (i := 503) (by decide +kernel), rfl⟩
theorem w_504 : Cond.methodLink "ProxyVotesLaw" 52 ⟨"ProxyVotes", "recuse", "(III)I"⟩ ∈ kWG := List.mem_filter.mpr ⟨List.mem_of_getElem? (i := 504) (by decide +kernel), rfl⟩
theorem w_505 : Cond.instanceMethod ⟨"ProxyVotes", "recuse", "(III)I"⟩ ∈ kWG := List.mem_filter.mpr ⟨List.mem_of_getElem? (i := 505) (by decide +kernel), rfl⟩
theorem w_506 : Cond.selects "ProxyVotes" ⟨"ProxyVotes", "recuse", "(III)I"⟩ ⟨"ProxyVotes", "recuse", "(III)I"⟩ ∈ kWG := List.mem_filter.mpr ⟨List.mem_of_getElem? (i := 506) (by decide +kernel), rfl⟩
theorem w_507 : Cond.code ⟨"ProxyVotes", "recuse", "(III)I"⟩ prog_1_method_11_code 4 (some FieldType.int) ∈ kWG := List.mem_filter.mpr ⟨List.mem_of_getElem? (i := 507) (by decide +kernel), rfl⟩
theorem w_510 : Cond.instanceMethod ⟨"ProxyVotes$Committee", "recuseByHand", "(III)I"⟩ ∈ kWG := List.mem_filter.mpr ⟨List.mem_of_getElem? (i := 510) (by decide +kernel), rfl⟩
theorem w_511 : Cond.code ⟨"ProxyVotes$Committee", "recuseByHand", "(III)I"⟩ prog_2_method_25_code 5 (some FieldType.int) ∈ kWG := List.mem_filter.mpr ⟨List.mem_of_getElem? (i := 511) (by decide +kernel), rfl⟩
theorem w_512 : Cond.methodLink "ProxyVotes$Committee" 80 ⟨"ProxyVotes$Committee", "isRecused", "(ILProxyVotes$Item;)Z"⟩ ∈ kWG := List.mem_filter.mpr ⟨List.mem_of_getElem? (i := 512) (by decide +kernel), rfl⟩
theorem w_514 : Cond.instanceMethod ⟨"ProxyVotes$Committee", "isRecused", "(ILProxyVotes$Item;)Z"⟩ ∈ kWG := List.mem_filter.mpr ⟨List.mem_of_getElem? (i := 514) (by decide +kernel), rfl⟩
theorem w_515 : Cond.code ⟨"ProxyVotes$Committee", "isRecused", "(ILProxyVotes$Item;)Z"⟩ prog_2_method_6_code 3 (some FieldType.boolean) ∈ kWG := List.mem_filter.mpr ⟨List.mem_of_getElem? (i := 515) (by decide +kernel), rfl⟩
theorem w_516 : Cond.methodLink "ProxyVotesLaw" 56 ⟨"ProxyVotes", "open", "(I)I"⟩ ∈ kWG := List.mem_filter.mpr ⟨List.mem_of_getElem? (i := 516) (by decide +kernel), rfl⟩
theorem w_517 : Cond.instanceMethod ⟨"ProxyVotes", "open", "(I)I"⟩ ∈ kWG := List.mem_filter.mpr ⟨List.mem_of_getElem? (i := 517) (by decide +kernel), rfl⟩
theorem w_518 : Cond.selects "ProxyVotes" ⟨"ProxyVotes", "open", "(I)I"⟩ ⟨"ProxyVotes", "open", "(I)I"⟩ ∈ kWG := List.mem_filter.mpr ⟨List.mem_of_getElem? (i := 518) (by decide +kernel), rfl⟩
theorem w_519 : Cond.code ⟨"ProxyVotes", "open", "(I)I"⟩ prog_1_method_12_code 2 (some FieldType.int) ∈ kWG := List.mem_filter.mpr ⟨List.mem_of_getElem? (i := 519) (by decide +kernel), rfl⟩
theorem w_522 : Cond.instanceMethod ⟨"ProxyVotes$Committee", "openItem", "(ILProxyVotes$Hearing;)I"⟩ ∈ kWG := List.mem_filter.mpr ⟨List.mem_of_getElem? (i := 522) (by decide +kernel), rfl⟩
theorem w_523 : Cond.code ⟨"ProxyVotes$Committee", "openItem", "(ILProxyVotes$Hearing;)I"⟩ prog_2_method_26_code 5 (some FieldType.int) ∈ kWG := List.mem_filter.mpr ⟨List.mem_of_getElem? (i := 523) (by decide +kernel), rfl⟩
theorem w_526 : Cond.instanceMethod ⟨"ProxyVotes$Hearing", "listen", "(LProxyVotes$Committee;LProxyVotes$Item;)V"⟩ ∈ kWG := List.mem_filter.mpr ⟨List.mem_of_getElem? (i := 526) (by decide +kernel), rfl⟩
theorem w_527 : Cond.code ⟨"ProxyVotes$Hearing", "listen", "(LProxyVotes$Committee;LProxyVotes$Item;)V"⟩ prog_3_method_2_code 4 none ∈ kWG := List.mem_filter.mpr ⟨List.mem_of_getElem? (i := 527) (by decide +kernel), rfl⟩
theorem w_528 : Cond.methodLink "ProxyVotes$Hearing" 21 ⟨"java/util/Arrays", "fill", "([II)V"⟩ ∈ kWG := List.mem_filter.mpr ⟨List.mem_of_getElem? (i := 528) (by decide +kernel), rfl⟩
theorem w_531 : Cond.methodLink "ProxyVotes$Hearing" 41 ⟨"ProxyVotes$Hearing", "takenUp", "(LProxyVotes$Committee;LProxyVotes$Item;I)I"⟩ ∈ kWG := List.mem_filter.mpr ⟨List.mem_of_getElem? (i := 531) (by decide +kernel), rfl⟩
theorem w_533 : Cond.instanceMethod ⟨"ProxyVotes$Hearing", "takenUp", "(LProxyVotes$Committee;LProxyVotes$Item;I)I"⟩ ∈ kWG := List.mem_filter.mpr ⟨List.mem_of_getElem? (i := 533) (by decide +kernel), rfl⟩
theorem w_534 : Cond.code ⟨"ProxyVotes$Hearing", "takenUp", "(LProxyVotes$Committee;LProxyVotes$Item;I)I"⟩ prog_3_method_3_code 5 (some FieldType.int) ∈ kWG := List.mem_filter.mpr ⟨List.mem_of_getElem? (i := 534) (by decide +kernel), rfl⟩
theorem w_535 : Cond.methodLink "ProxyVotes$Hearing" 45 ⟨"ProxyVotes$Hearing", "endOfWay", "(LProxyVotes$Committee;LProxyVotes$Item;I)I"⟩ ∈ kWG := List.mem_filter.mpr ⟨List.mem_of_getElem? (i := 535) (by decide +kernel), rfl⟩
theorem w_537 : Cond.instanceMethod ⟨"ProxyVotes$Hearing", "endOfWay", "(LProxyVotes$Committee;LProxyVotes$Item;I)I"⟩ ∈ kWG := List.mem_filter.mpr ⟨List.mem_of_getElem? (i := 537) (by decide +kernel), rfl⟩
theorem w_538 : Cond.code ⟨"ProxyVotes$Hearing", "endOfWay", "(LProxyVotes$Committee;LProxyVotes$Item;I)I"⟩ prog_3_method_4_code 7 (some FieldType.int) ∈ kWG := List.mem_filter.mpr ⟨List.mem_of_getElem? (i := 538) (by decide +kernel), rfl⟩
theorem w_541 : Cond.instanceMethod ⟨"ProxyVotes$Committee", "holderFor", "(ILProxyVotes$Item;)I"⟩ ∈ kWG := List.mem_filter.mpr ⟨List.mem_of_getElem? (i := 541) (by decide +kernel), rfl⟩
theorem w_542 : Cond.code ⟨"ProxyVotes$Committee", "holderFor", "(ILProxyVotes$Item;)I"⟩ prog_2_method_8_code 3 (some FieldType.int) ∈ kWG := List.mem_filter.mpr ⟨List.mem_of_getElem? (i := 542) (by decide +kernel), rfl⟩
theorem w_545 : Cond.instanceMethod ⟨"ProxyVotes$Hearing", "weightThere", "(LProxyVotes$Committee;)I"⟩ ∈ kWG := List.mem_filter.mpr ⟨List.mem_of_getElem? (i := 545) (by decide +kernel), rfl⟩
theorem w_546 : Cond.code ⟨"ProxyVotes$Hearing", "weightThere", "(LProxyVotes$Committee;)I"⟩ prog_3_method_6_code 4 (some FieldType.int) ∈ kWG := List.mem_filter.mpr ⟨List.mem_of_getElem? (i := 546) (by decide +kernel), rfl⟩
theorem w_547 : Cond.methodLink "ProxyVotes$Committee" 144 ⟨"ProxyVotes$Committee", "firstIn", "(I)I"⟩ ∈ kWG := List.mem_filter.mpr ⟨List.mem_of_getElem? (i := 547) (by decide +kernel), rfl⟩
theorem w_549 : Cond.instanceMethod ⟨"ProxyVotes$Committee", "firstIn", "(I)I"⟩ ∈ kWG := List.mem_filter.mpr ⟨List.mem_of_getElem? (i := 549) (by decide +kernel), rfl⟩
theorem w_550 : Cond.code ⟨"ProxyVotes$Committee", "firstIn", "(I)I"⟩ prog_2_method_12_code 3 (some FieldType.int) ∈ kWG := List.mem_filter.mpr ⟨List.mem_of_getElem? (i := 550) (by decide +kernel), rfl⟩
theorem w_551 : Cond.methodLink "ProxyVotes$Committee" 147 ⟨"ProxyVotes$Committee", "isQuorum", "(I)Z"⟩ ∈ kWG := List.mem_filter.mpr ⟨List.mem_of_getElem? (i := 551) (by decide +kernel), rfl⟩
theorem w_553 : Cond.instanceMethod ⟨"ProxyVotes$Committee", "isQuorum", "(I)Z"⟩ ∈ kWG := List.mem_filter.mpr ⟨List.mem_of_getElem? (i := 553) (by decide +kernel), rfl⟩
theorem w_554 : Cond.code ⟨"ProxyVotes$Committee", "isQuorum", "(I)Z"⟩ prog_2_method_10_code 3 (some FieldType.boolean) ∈ kWG := List.mem_filter.mpr ⟨List.mem_of_getElem? (i := 554) (by decide +kernel), rfl⟩
theorem w_555 : Cond.methodLink "ProxyVotes$Committee" 85 ⟨"ProxyVotes$Committee", "weightOfAll", "()I"⟩ ∈ kWG := List.mem_filter.mpr ⟨List.mem_of_getElem? (i := 555) (by decide +kernel), rfl⟩
theorem w_557 : Cond.instanceMethod ⟨"ProxyVotes$Committee", "weightOfAll", "()I"⟩ ∈ kWG := List.mem_filter.mpr ⟨List.mem_of_getElem? (i := 557) (by decide +kernel), rfl⟩
theorem w_558 : Cond.code ⟨"ProxyVotes$Committee", "weightOfAll", "()I"⟩ prog_2_method_9_code 3 (some FieldType.int) ∈ kWG := List.mem_filter.mpr ⟨List.mem_of_getElem? (i := 558) (by decide +kernel), rfl⟩
theorem w_559 : Cond.methodLink "ProxyVotesLaw" 60 ⟨"ProxyVotes", "vote", "(II)I"⟩ ∈ kWG := List.mem_filter.mpr ⟨List.mem_of_getElem? (i := 559) (by decide +kernel), rfl⟩
theorem w_560 : Cond.instanceMethod ⟨"ProxyVotes", "vote", "(II)I"⟩ ∈ kWG := List.mem_filter.mpr ⟨List.mem_of_getElem? (i := 560) (by decide +kernel), rfl⟩
theorem w_561 : Cond.selects "ProxyVotes" ⟨"ProxyVotes", "vote", "(II)I"⟩ ⟨"ProxyVotes", "vote", "(II)I"⟩ ∈ kWG := List.mem_filter.mpr ⟨List.mem_of_getElem? (i := 561) (by decide +kernel), rfl⟩
theorem w_562 : Cond.code ⟨"ProxyVotes", "vote", "(II)I"⟩ prog_1_method_13_code 3 (some FieldType.int) ∈ kWG := List.mem_filter.mpr ⟨List.mem_of_getElem? (i := 562) (by decide +kernel), rfl⟩
theorem w_565 : Cond.instanceMethod ⟨"ProxyVotes$Committee", "giveVote", "(II)I"⟩ ∈ kWG := List.mem_filter.mpr ⟨List.mem_of_getElem? (i := 565) (by decide +kernel), rfl⟩
theorem w_566 : Cond.code ⟨"ProxyVotes$Committee", "giveVote", "(II)I"⟩ prog_2_method_27_code 5 (some FieldType.int) ∈ kWG := List.mem_filter.mpr ⟨List.mem_of_getElem? (i := 566) (by decide +kernel), rfl⟩
theorem w_567 : Cond.methodLink "ProxyVotes$Committee" 150 ⟨"ProxyVotes$Committee", "canVote", "(ILProxyVotes$Item;)Z"⟩ ∈ kWG := List.mem_filter.mpr ⟨List.mem_of_getElem? (i := 567) (by decide +kernel), rfl⟩
theorem w_569 : Cond.instanceMethod ⟨"ProxyVotes$Committee", "canVote", "(ILProxyVotes$Item;)Z"⟩ ∈ kWG := List.mem_filter.mpr ⟨List.mem_of_getElem? (i := 569) (by decide +kernel), rfl⟩
theorem w_570 : Cond.code ⟨"ProxyVotes$Committee", "canVote", "(ILProxyVotes$Item;)Z"⟩ prog_2_method_7_code 3 (some FieldType.boolean) ∈ kWG := List.mem_filter.mpr ⟨List.mem_of_getElem? (i := 570) (by decide +kernel), rfl⟩
theorem w_571 : Cond.methodLink "ProxyVotesLaw" 64 ⟨"ProxyVotes", "close", "()I"⟩ ∈ kWG := List.mem_filter.mpr ⟨List.mem_of_getElem? (i := 571) (by decide +kernel), rfl⟩
theorem w_572 : Cond.instanceMethod ⟨"ProxyVotes", "close", "()I"⟩ ∈ kWG := List.mem_filter.mpr ⟨List.mem_of_getElem? (i := 572) (by decide +kernel), rfl⟩
theorem w_573 : Cond.selects "ProxyVotes" ⟨"ProxyVotes", "close", "()I"⟩ ⟨"ProxyVotes", "close", "()I"⟩ ∈ kWG := List.mem_filter.mpr ⟨List.mem_of_getElem? (i := 573) (by decide +kernel), rfl⟩
theorem w_574 : Cond.code ⟨"ProxyVotes", "close", "()I"⟩ prog_1_method_14_code 1 (some FieldType.int) ∈ kWG := List.mem_filter.mpr ⟨List.mem_of_getElem? (i := 574) (by decide +kernel), rfl⟩
theorem w_577 : Cond.instanceMethod ⟨"ProxyVotes$Committee", "closeItem", "(LProxyVotes$Hearing;)I"⟩ ∈ kWG := List.mem_filter.mpr ⟨List.mem_of_getElem? (i := 577) (by decide +kernel), rfl⟩
theorem w_578 : Cond.code ⟨"ProxyVotes$Committee", "closeItem", "(LProxyVotes$Hearing;)I"⟩ prog_2_method_28_code 4 (some FieldType.int) ∈ kWG := List.mem_filter.mpr ⟨List.mem_of_getElem? (i := 578) (by decide +kernel), rfl⟩
theorem w_581 : Cond.instanceMethod ⟨"ProxyVotes$Hearing", "tally", "(LProxyVotes$Committee;LProxyVotes$Item;)V"⟩ ∈ kWG := List.mem_filter.mpr ⟨List.mem_of_getElem? (i := 581) (by decide +kernel), rfl⟩
theorem w_582 : Cond.code ⟨"ProxyVotes$Hearing", "tally", "(LProxyVotes$Committee;LProxyVotes$Item;)V"⟩ prog_3_method_8_code 4 none ∈ kWG := List.mem_filter.mpr ⟨List.mem_of_getElem? (i := 582) (by decide +kernel), rfl⟩
theorem w_583 : Cond.methodLink "ProxyVotes$Hearing" 66 ⟨"ProxyVotes$Hearing", "wayOf", "(LProxyVotes$Committee;LProxyVotes$Item;I)I"⟩ ∈ kWG := List.mem_filter.mpr ⟨List.mem_of_getElem? (i := 583) (by decide +kernel), rfl⟩
theorem w_585 : Cond.instanceMethod ⟨"ProxyVotes$Hearing", "wayOf", "(LProxyVotes$Committee;LProxyVotes$Item;I)I"⟩ ∈ kWG := List.mem_filter.mpr ⟨List.mem_of_getElem? (i := 585) (by decide +kernel), rfl⟩
theorem w_586 : Cond.code ⟨"ProxyVotes$Hearing", "wayOf", "(LProxyVotes$Committee;LProxyVotes$Item;I)I"⟩ prog_3_method_7_code 5 (some FieldType.int) ∈ kWG := List.mem_filter.mpr ⟨List.mem_of_getElem? (i := 586) (by decide +kernel), rfl⟩
theorem w_589 : Cond.instanceMethod ⟨"ProxyVotes$Hearing", "outcome", "(LProxyVotes$Committee;LProxyVotes$Item;I)I"⟩ ∈ kWG := List.mem_filter.mpr ⟨List.mem_of_getElem? (i := 589) (by decide +kernel), rfl⟩
theorem w_590 : Cond.code ⟨"ProxyVotes$Hearing", "outcome", "(LProxyVotes$Committee;LProxyVotes$Item;I)I"⟩ prog_3_method_9_code 6 (some FieldType.int) ∈ kWG := List.mem_filter.mpr ⟨List.mem_of_getElem? (i := 590) (by decide +kernel), rfl⟩
theorem w_593 : Cond.instanceMethod ⟨"ProxyVotes$Item", "putOff", "()V"⟩ ∈ kWG := List.mem_filter.mpr ⟨List.mem_of_getElem? (i := 593) (by decide +kernel), rfl⟩
theorem w_594 : Cond.code ⟨"ProxyVotes$Item", "putOff", "()V"⟩ prog_5_method_5_code 1 none ∈ kWG := List.mem_filter.mpr ⟨List.mem_of_getElem? (i := 594) (by decide +kernel), rfl⟩
theorem w_595 : Cond.methodLink "ProxyVotesLaw" 69 ⟨"ProxyVotes", "cast", "(I)I"⟩ ∈ kWG := List.mem_filter.mpr ⟨List.mem_of_getElem? (i := 595) (by decide +kernel), rfl⟩
theorem w_596 : Cond.instanceMethod ⟨"ProxyVotes", "cast", "(I)I"⟩ ∈ kWG := List.mem_filter.mpr ⟨List.mem_of_getElem? (i := 596) (by decide +kernel), rfl⟩
theorem w_597 : Cond.selects "ProxyVotes" ⟨"ProxyVotes", "cast", "(I)I"⟩ ⟨"ProxyVotes", "cast", "(I)I"⟩ ∈ kWG := List.mem_filter.mpr ⟨List.mem_of_getElem? (i := 597) (by decide +kernel), rfl⟩
theorem w_598 : Cond.code ⟨"ProxyVotes", "cast", "(I)I"⟩ prog_1_method_15_code 2 (some FieldType.int) ∈ kWG := List.mem_filter.mpr ⟨List.mem_of_getElem? (i := 598) (by decide +kernel), rfl⟩
theorem w_601 : Cond.instanceMethod ⟨"ProxyVotes$Committee", "breakTie", "(I)I"⟩ ∈ kWG := List.mem_filter.mpr ⟨List.mem_of_getElem? (i := 601) (by decide +kernel), rfl⟩
theorem w_602 : Cond.code ⟨"ProxyVotes$Committee", "breakTie", "(I)I"⟩ prog_2_method_29_code 4 (some FieldType.int) ∈ kWG := List.mem_filter.mpr ⟨List.mem_of_getElem? (i := 602) (by decide +kernel), rfl⟩
theorem w_603 : Cond.methodLink "ProxyVotes$Committee" 167 ⟨"ProxyVotes$Committee", "chairOfTheMoment", "()I"⟩ ∈ kWG := List.mem_filter.mpr ⟨List.mem_of_getElem? (i := 603) (by decide +kernel), rfl⟩
theorem w_605 : Cond.instanceMethod ⟨"ProxyVotes$Committee", "chairOfTheMoment", "()I"⟩ ∈ kWG := List.mem_filter.mpr ⟨List.mem_of_getElem? (i := 605) (by decide +kernel), rfl⟩
theorem w_606 : Cond.code ⟨"ProxyVotes$Committee", "chairOfTheMoment", "()I"⟩ prog_2_method_11_code 2 (some FieldType.int) ∈ kWG := List.mem_filter.mpr ⟨List.mem_of_getElem? (i := 606) (by decide +kernel), rfl⟩
theorem w_607 : Cond.methodLink "ProxyVotesLaw" 73 ⟨"ProxyVotes", "pass", "(I)I"⟩ ∈ kWG := List.mem_filter.mpr ⟨List.mem_of_getElem? (i := 607) (by decide +kernel), rfl⟩
theorem w_608 : Cond.instanceMethod ⟨"ProxyVotes", "pass", "(I)I"⟩ ∈ kWG := List.mem_filter.mpr ⟨List.mem_of_getElem? (i := 608) (by decide +kernel), rfl⟩
theorem w_609 : Cond.selects "ProxyVotes" ⟨"ProxyVotes", "pass", "(I)I"⟩ ⟨"ProxyVotes", "pass", "(I)I"⟩ ∈ kWG := List.mem_filter.mpr ⟨List.mem_of_getElem? (i := 609) (by decide +kernel), rfl⟩
theorem w_610 : Cond.code ⟨"ProxyVotes", "pass", "(I)I"⟩ prog_1_method_16_code 2 (some FieldType.int) ∈ kWG := List.mem_filter.mpr ⟨List.mem_of_getElem? (i := 610) (by decide +kernel), rfl⟩
theorem w_613 : Cond.instanceMethod ⟨"ProxyVotes$Committee", "letPass", "(I)I"⟩ ∈ kWG := List.mem_filter.mpr ⟨List.mem_of_getElem? (i := 613) (by decide +kernel), rfl⟩
theorem w_614 : Cond.code ⟨"ProxyVotes$Committee", "letPass", "(I)I"⟩ prog_2_method_30_code 2 (some FieldType.int) ∈ kWG := List.mem_filter.mpr ⟨List.mem_of_getElem? (i := 614) (by decide +kernel), rfl⟩
theorem w_615 : Cond.methodLink "ProxyVotes$Committee" 170 ⟨"ProxyVotes$Committee", "moveTo", "(I)V"⟩ ∈ kWG := List.mem_filter.mpr ⟨List.mem_of_getElem? (i := 615) (by decide +kernel), rfl⟩
theorem w_617 : Cond.instanceMethod ⟨"ProxyVotes$Committee", "moveTo", "(I)V"⟩ ∈ kWG := List.mem_filter.mpr ⟨List.mem_of_getElem? (i := 617) (by decide +kernel), rfl⟩
theorem w_618 : Cond.code ⟨"ProxyVotes$Committee", "moveTo", "(I)V"⟩ prog_2_method_31_code 5 none ∈ kWG := List.mem_filter.mpr ⟨List.mem_of_getElem? (i := 618) (by decide +kernel), rfl⟩
theorem w_621 : Cond.instanceMethod ⟨"ProxyVotes$Movements", "next", "()I"⟩ ∈ kWG := List.mem_filter.mpr ⟨List.mem_of_getElem? (i := 621) (by decide +kernel), rfl⟩
theorem w_622 : Cond.code ⟨"ProxyVotes$Movements", "next", "()I"⟩ prog_6_method_3_code 3 (some FieldType.int) ∈ kWG := List.mem_filter.mpr ⟨List.mem_of_getElem? (i := 622) (by decide +kernel), rfl⟩
theorem w_625 : Cond.instanceMethod ⟨"ProxyVotes$Movements", "drop", "(I)V"⟩ ∈ kWG := List.mem_filter.mpr ⟨List.mem_of_getElem? (i := 625) (by decide +kernel), rfl⟩
theorem w_626 : Cond.code ⟨"ProxyVotes$Movements", "drop", "(I)V"⟩ prog_6_method_4_code 3 none ∈ kWG := List.mem_filter.mpr ⟨List.mem_of_getElem? (i := 626) (by decide +kernel), rfl⟩
theorem w_627 : Cond.methodLink "ProxyVotesLaw" 77 ⟨"ProxyVotes", "ofMember", "(II)I"⟩ ∈ kWG := List.mem_filter.mpr ⟨List.mem_of_getElem? (i := 627) (by decide +kernel), rfl⟩
theorem w_628 : Cond.instanceMethod ⟨"ProxyVotes", "ofMember", "(II)I"⟩ ∈ kWG := List.mem_filter.mpr ⟨List.mem_of_getElem? (i := 628) (by decide +kernel), rfl⟩
theorem w_629 : Cond.selects "ProxyVotes" ⟨"ProxyVotes", "ofMember", "(II)I"⟩ ⟨"ProxyVotes", "ofMember", "(II)I"⟩ ∈ kWG := List.mem_filter.mpr ⟨List.mem_of_getElem? (i := 629) (by decide +kernel), rfl⟩
theorem w_630 : Cond.code ⟨"ProxyVotes", "ofMember", "(II)I"⟩ prog_1_method_17_code 3 (some FieldType.int) ∈ kWG := List.mem_filter.mpr ⟨List.mem_of_getElem? (i := 630) (by decide +kernel), rfl⟩
theorem w_635 : Cond.instanceMethod ⟨"ProxyVotes$Committee", "votesOf", "(I)I"⟩ ∈ kWG := List.mem_filter.mpr ⟨List.mem_of_getElem? (i := 635) (by decide +kernel), rfl⟩
theorem w_636 : Cond.code ⟨"ProxyVotes$Committee", "votesOf", "(I)I"⟩ prog_2_method_14_code 4 (some FieldType.int) ∈ kWG := List.mem_filter.mpr ⟨List.mem_of_getElem? (i := 636) (by decide +kernel), rfl⟩
theorem w_639 : Cond.instanceMethod ⟨"ProxyVotes$Committee", "tiesBrokenBy", "(I)I"⟩ ∈ kWG := List.mem_filter.mpr ⟨List.mem_of_getElem? (i := 639) (by decide +kernel), rfl⟩
theorem w_640 : Cond.code ⟨"ProxyVotes$Committee", "tiesBrokenBy", "(I)I"⟩ prog_2_method_15_code 4 (some FieldType.int) ∈ kWG := List.mem_filter.mpr ⟨List.mem_of_getElem? (i := 640) (by decide +kernel), rfl⟩
theorem w_641 : Cond.methodLink "ProxyVotesLaw" 81 ⟨"ProxyVotes", "ofItem", "(II)I"⟩ ∈ kWG := List.mem_filter.mpr ⟨List.mem_of_getElem? (i := 641) (by decide +kernel), rfl⟩
theorem w_642 : Cond.instanceMethod ⟨"ProxyVotes", "ofItem", "(II)I"⟩ ∈ kWG := List.mem_filter.mpr ⟨List.mem_of_getElem? (i := 642) (by decide +kernel), rfl⟩
theorem w_643 : Cond.selects "ProxyVotes" ⟨"ProxyVotes", "ofItem", "(II)I"⟩ ⟨"ProxyVotes", "ofItem", "(II)I"⟩ ∈ kWG := List.mem_filter.mpr ⟨List.mem_of_getElem? (i := 643) (by decide +kernel), rfl⟩
theorem w_644 : Cond.code ⟨"ProxyVotes", "ofItem", "(II)I"⟩ prog_1_method_18_code 4 (some FieldType.int) ∈ kWG := List.mem_filter.mpr ⟨List.mem_of_getElem? (i := 644) (by decide +kernel), rfl⟩
theorem w_649 : Cond.methodLink "ProxyVotes" 170 ⟨"ProxyVotes", "sumOf", "(LProxyVotes$Item;I)I"⟩ ∈ kWG := List.mem_filter.mpr ⟨List.mem_of_getElem? (i := 649) (by decide +kernel), rfl⟩
theorem w_651 : Cond.instanceMethod ⟨"ProxyVotes", "sumOf", "(LProxyVotes$Item;I)I"⟩ ∈ kWG := List.mem_filter.mpr ⟨List.mem_of_getElem? (i := 651) (by decide +kernel), rfl⟩
theorem w_652 : Cond.code ⟨"ProxyVotes", "sumOf", "(LProxyVotes$Item;I)I"⟩ prog_1_method_21_code 3 (some FieldType.int) ∈ kWG := List.mem_filter.mpr ⟨List.mem_of_getElem? (i := 652) (by decide +kernel), rfl⟩
theorem w_655 : Cond.methodLink "ProxyVotesLaw" 85 ⟨"ProxyVotes", "at", "(III)I"⟩ ∈ kWG := List.mem_filter.mpr ⟨List.mem_of_getElem? (i := 655) (by decide +kernel), rfl⟩
theorem w_656 : Cond.instanceMethod ⟨"ProxyVotes", "at", "(III)I"⟩ ∈ kWG := List.mem_filter.mpr ⟨List.mem_of_getElem? (i := 656) (by decide +kernel), rfl⟩
theorem w_657 : Cond.selects "ProxyVotes" ⟨"ProxyVotes", "at", "(III)I"⟩ ⟨"ProxyVotes", "at", "(III)I"⟩ ∈ kWG := List.mem_filter.mpr ⟨List.mem_of_getElem? (i := 657) (by decide +kernel), rfl⟩
theorem w_658 : Cond.code ⟨"ProxyVotes", "at", "(III)I"⟩ prog_1_method_19_code 5 (some FieldType.int) ∈ kWG := List.mem_filter.mpr ⟨List.mem_of_getElem? (i := 658) (by decide +kernel), rfl⟩
theorem w_663 : Cond.instanceMethod ⟨"ProxyVotes$Hearing", "spokenForBy", "(LProxyVotes$Committee;I)I"⟩ ∈ kWG := List.mem_filter.mpr ⟨List.mem_of_getElem? (i := 663) (by decide +kernel), rfl⟩
theorem w_664 : Cond.code ⟨"ProxyVotes$Hearing", "spokenForBy", "(LProxyVotes$Committee;I)I"⟩ prog_3_method_5_code 5 (some FieldType.int) ∈ kWG := List.mem_filter.mpr ⟨List.mem_of_getElem? (i := 664) (by decide +kernel), rfl⟩
theorem w_665 : Cond.methodLink "ProxyVotesLaw" 89 ⟨"ProxyVotes", "count", "(I)I"⟩ ∈ kWG := List.mem_filter.mpr ⟨List.mem_of_getElem? (i := 665) (by decide +kernel), rfl⟩
theorem w_666 : Cond.instanceMethod ⟨"ProxyVotes", "count", "(I)I"⟩ ∈ kWG := List.mem_filter.mpr ⟨List.mem_of_getElem? (i := 666) (by decide +kernel), rfl⟩
theorem w_667 : Cond.selects "ProxyVotes" ⟨"ProxyVotes", "count", "(I)I"⟩ ⟨"ProxyVotes", "count", "(I)I"⟩ ∈ kWG := List.mem_filter.mpr ⟨List.mem_of_getElem? (i := 667) (by decide +kernel), rfl⟩
theorem w_668 : Cond.code ⟨"ProxyVotes", "count", "(I)I"⟩ prog_1_method_20_code 2 (some FieldType.int) ∈ kWG := List.mem_filter.mpr ⟨List.mem_of_getElem? (i := 668) (by decide +kernel), rfl⟩
theorem w_671 : Cond.instanceMethod ⟨"ProxyVotes$Committee", "itemsIn", "(I)I"⟩ ∈ kWG := List.mem_filter.mpr ⟨List.mem_of_getElem? (i := 671) (by decide +kernel), rfl⟩
theorem w_672 : Cond.code ⟨"ProxyVotes$Committee", "itemsIn", "(I)I"⟩ prog_2_method_13_code 4 (some FieldType.int) ∈ kWG := List.mem_filter.mpr ⟨List.mem_of_getElem? (i := 672) (by decide +kernel), rfl⟩
theorem w_676 : Cond.methodLink "ProxyVotesLaw" 93 ⟨"ProxyVotes", "wouldBe", "(I)I"⟩ ∈ kWG := List.mem_filter.mpr ⟨List.mem_of_getElem? (i := 676) (by decide +kernel), rfl⟩
theorem w_677 : Cond.instanceMethod ⟨"ProxyVotes", "wouldBe", "(I)I"⟩ ∈ kWG := List.mem_filter.mpr ⟨List.mem_of_getElem? (i := 677) (by decide +kernel), rfl⟩
theorem w_678 : Cond.selects "ProxyVotes" ⟨"ProxyVotes", "wouldBe", "(I)I"⟩ ⟨"ProxyVotes", "wouldBe", "(I)I"⟩ ∈ kWG := List.mem_filter.mpr ⟨List.mem_of_getElem? (i := 678) (by decide +kernel), rfl⟩
theorem w_679 : Cond.code ⟨"ProxyVotes", "wouldBe", "(I)I"⟩ prog_1_method_22_code 3 (some FieldType.int) ∈ kWG := List.mem_filter.mpr ⟨List.mem_of_getElem? (i := 679) (by decide +kernel), rfl⟩
theorem w_681 : Cond.methodLink "ProxyVotesLaw" 97 ⟨"ProxyVotes", "decisive", "(I)I"⟩ ∈ kWG := List.mem_filter.mpr ⟨List.mem_of_getElem? (i := 681) (by decide +kernel), rfl⟩
theorem w_682 : Cond.instanceMethod ⟨"ProxyVotes", "decisive", "(I)I"⟩ ∈ kWG := List.mem_filter.mpr ⟨List.mem_of_getElem? (i := 682) (by decide +kernel), rfl⟩
theorem w_683 : Cond.selects "ProxyVotes" ⟨"ProxyVotes", "decisive", "(I)I"⟩ ⟨"ProxyVotes", "decisive", "(I)I"⟩ ∈ kWG := List.mem_filter.mpr ⟨List.mem_of_getElem? (i := 683) (by decide +kernel), rfl⟩
theorem w_684 : Cond.code ⟨"ProxyVotes", "decisive", "(I)I"⟩ prog_1_method_23_code 6 (some FieldType.int) ∈ kWG := List.mem_filter.mpr ⟨List.mem_of_getElem? (i := 684) (by decide +kernel), rfl⟩
theorem w_687 : Cond.methodLink "ProxyVotes" 262 ⟨"ProxyVotes", "canTurn", "(ILProxyVotes$Item;I)Z"⟩ ∈ kWG := List.mem_filter.mpr ⟨List.mem_of_getElem? (i := 687) (by decide +kernel), rfl⟩
theorem w_689 : Cond.instanceMethod ⟨"ProxyVotes", "canTurn", "(ILProxyVotes$Item;I)Z"⟩ ∈ kWG := List.mem_filter.mpr ⟨List.mem_of_getElem? (i := 689) (by decide +kernel), rfl⟩
theorem w_690 : Cond.code ⟨"ProxyVotes", "canTurn", "(ILProxyVotes$Item;I)Z"⟩ prog_1_method_28_code 7 (some FieldType.boolean) ∈ kWG := List.mem_filter.mpr ⟨List.mem_of_getElem? (i := 690) (by decide +kernel), rfl⟩
theorem w_691 : Cond.methodLink "ProxyVotesLaw" 101 ⟨"ProxyVotes", "needed", "(II)I"⟩ ∈ kWG := List.mem_filter.mpr ⟨List.mem_of_getElem? (i := 691) (by decide +kernel), rfl⟩
theorem w_692 : Cond.instanceMethod ⟨"ProxyVotes", "needed", "(II)I"⟩ ∈ kWG := List.mem_filter.mpr ⟨List.mem_of_getElem? (i := 692) (by decide +kernel), rfl⟩
theorem w_693 : Cond.selects "ProxyVotes" ⟨"ProxyVotes", "needed", "(II)I"⟩ ⟨"ProxyVotes", "needed", "(II)I"⟩ ∈ kWG := List.mem_filter.mpr ⟨List.mem_of_getElem? (i := 693) (by decide +kernel), rfl⟩
theorem w_694 : Cond.code ⟨"ProxyVotes", "needed", "(II)I"⟩ prog_1_method_24_code 5 (some FieldType.int) ∈ kWG := List.mem_filter.mpr ⟨List.mem_of_getElem? (i := 694) (by decide +kernel), rfl⟩
theorem w_695 : Cond.methodLink "ProxyVotes" 266 ⟨"ProxyVotes", "findGains", "(LProxyVotes$Item;)I"⟩ ∈ kWG := List.mem_filter.mpr ⟨List.mem_of_getElem? (i := 695) (by decide +kernel), rfl⟩
theorem w_697 : Cond.instanceMethod ⟨"ProxyVotes", "findGains", "(LProxyVotes$Item;)I"⟩ ∈ kWG := List.mem_filter.mpr ⟨List.mem_of_getElem? (i := 697) (by decide +kernel), rfl⟩
theorem w_698 : Cond.code ⟨"ProxyVotes", "findGains", "(LProxyVotes$Item;)I"⟩ prog_1_method_29_code 5 (some FieldType.int) ∈ kWG := List.mem_filter.mpr ⟨List.mem_of_getElem? (i := 698) (by decide +kernel), rfl⟩
theorem w_699 : Cond.methodLink "ProxyVotes" 270 ⟨"ProxyVotes", "fewestToCarry", "(LProxyVotes$Item;I)I"⟩ ∈ kWG := List.mem_filter.mpr ⟨List.mem_of_getElem? (i := 699) (by decide +kernel), rfl⟩
theorem w_701 : Cond.instanceMethod ⟨"ProxyVotes", "fewestToCarry", "(LProxyVotes$Item;I)I"⟩ ∈ kWG := List.mem_filter.mpr ⟨List.mem_of_getElem? (i := 701) (by decide +kernel), rfl⟩
theorem w_702 : Cond.code ⟨"ProxyVotes", "fewestToCarry", "(LProxyVotes$Item;I)I"⟩ prog_1_method_30_code 7 (some FieldType.int) ∈ kWG := List.mem_filter.mpr ⟨List.mem_of_getElem? (i := 702) (by decide +kernel), rfl⟩
theorem w_703 : Cond.methodLink "ProxyVotes" 273 ⟨"java/lang/Integer", "bitCount", "(I)I"⟩ ∈ kWG := List.mem_filter.mpr ⟨List.mem_of_getElem? (i := 703) (by decide +kernel), rfl⟩
theorem w_704 : Cond.methodLink "ProxyVotes" 291 ⟨"ProxyVotes", "gainOf", "(I)I"⟩ ∈ kWG := List.mem_filter.mpr ⟨List.mem_of_getElem? (i := 704) (by decide +kernel), rfl⟩
theorem w_706 : Cond.instanceMethod ⟨"ProxyVotes", "gainOf", "(I)I"⟩ ∈ kWG := List.mem_filter.mpr ⟨List.mem_of_getElem? (i := 706) (by decide +kernel), rfl⟩
theorem w_707 : Cond.code ⟨"ProxyVotes", "gainOf", "(I)I"⟩ prog_1_method_31_code 4 (some FieldType.int) ∈ kWG := List.mem_filter.mpr ⟨List.mem_of_getElem? (i := 707) (by decide +kernel), rfl⟩
theorem w_708 : Cond.methodLink "ProxyVotesLaw" 105 ⟨"ProxyVotes", "power", "(I)I"⟩ ∈ kWG := List.mem_filter.mpr ⟨List.mem_of_getElem? (i := 708) (by decide +kernel), rfl⟩
theorem w_709 : Cond.instanceMethod ⟨"ProxyVotes", "power", "(I)I"⟩ ∈ kWG := List.mem_filter.mpr ⟨List.mem_of_getElem? (i := 709) (by decide +kernel), rfl⟩
theorem w_710 : Cond.selects "ProxyVotes" ⟨"ProxyVotes", "power", "(I)I"⟩ ⟨"ProxyVotes", "power", "(I)I"⟩ ∈ kWG := List.mem_filter.mpr ⟨List.mem_of_getElem? (i := 710) (by decide +kernel), rfl⟩
theorem w_711 : Cond.code ⟨"ProxyVotes", "power", "(I)I"⟩ prog_1_method_25_code 6 (some FieldType.int) ∈ kWG := List.mem_filter.mpr ⟨List.mem_of_getElem? (i := 711) (by decide +kernel), rfl⟩
theorem w_712 : Cond.methodLink "ProxyVotes" 278 ⟨"ProxyVotes", "countSetsWithout", "(I)V"⟩ ∈ kWG := List.mem_filter.mpr ⟨List.mem_of_getElem? (i := 712) (by decide +kernel), rfl⟩
theorem w_714 : Cond.instanceMethod ⟨"ProxyVotes", "countSetsWithout", "(I)V"⟩ ∈ kWG := List.mem_filter.mpr ⟨List.mem_of_getElem? (i := 714) (by decide +kernel), rfl⟩
theorem w_715 : Cond.code ⟨"ProxyVotes", "countSetsWithout", "(I)V"⟩ prog_1_method_32_code 5 none ∈ kWG := List.mem_filter.mpr ⟨List.mem_of_getElem? (i := 715) (by decide +kernel), rfl⟩
theorem w_716 : Cond.methodLink "ProxyVotes" 294 ⟨"java/util/Arrays", "fill", "([II)V"⟩ ∈ kWG := List.mem_filter.mpr ⟨List.mem_of_getElem? (i := 716) (by decide +kernel), rfl⟩
theorem w_717 : Cond.methodLink "ProxyVotesLaw" 109 ⟨"ProxyVotes", "quorumAt", "(I)I"⟩ ∈ kWG := List.mem_filter.mpr ⟨List.mem_of_getElem? (i := 717) (by decide +kernel), rfl⟩
theorem w_718 : Cond.instanceMethod ⟨"ProxyVotes", "quorumAt", "(I)I"⟩ ∈ kWG := List.mem_filter.mpr ⟨List.mem_of_getElem? (i := 718) (by decide +kernel), rfl⟩
theorem w_719 : Cond.selects "ProxyVotes" ⟨"ProxyVotes", "quorumAt", "(I)I"⟩ ⟨"ProxyVotes", "quorumAt", "(I)I"⟩ ∈ kWG := List.mem_filter.mpr ⟨List.mem_of_getElem? (i := 719) (by decide +kernel), rfl⟩
theorem w_720 : Cond.code ⟨"ProxyVotes", "quorumAt", "(I)I"⟩ prog_1_method_26_code 5 (some FieldType.int) ∈ kWG := List.mem_filter.mpr ⟨List.mem_of_getElem? (i := 720) (by decide +kernel), rfl⟩
theorem w_723 : Cond.instanceMethod ⟨"ProxyVotes$Committee", "nextTurn", "()I"⟩ ∈ kWG := List.mem_filter.mpr ⟨List.mem_of_getElem? (i := 723) (by decide +kernel), rfl⟩
theorem w_724 : Cond.code ⟨"ProxyVotes$Committee", "nextTurn", "()I"⟩ prog_2_method_32_code 4 (some FieldType.int) ∈ kWG := List.mem_filter.mpr ⟨List.mem_of_getElem? (i := 724) (by decide +kernel), rfl⟩
theorem w_725 : Cond.methodLink "ProxyVotes$Committee" 189 ⟨"java/lang/Math", "min", "(II)I"⟩ ∈ kWG := List.mem_filter.mpr ⟨List.mem_of_getElem? (i := 725) (by decide +kernel), rfl⟩
theorem w_727 : Cond.methodLink "ProxyVotesLaw" 113 ⟨"ProxyVotes", "bestHolder", "(II)I"⟩ ∈ kWG := List.mem_filter.mpr ⟨List.mem_of_getElem? (i := 727) (by decide +kernel), rfl⟩
theorem w_728 : Cond.instanceMethod ⟨"ProxyVotes", "bestHolder", "(II)I"⟩ ∈ kWG := List.mem_filter.mpr ⟨List.mem_of_getElem? (i := 728) (by decide +kernel), rfl⟩
theorem w_729 : Cond.selects "ProxyVotes" ⟨"ProxyVotes", "bestHolder", "(II)I"⟩ ⟨"ProxyVotes", "bestHolder", "(II)I"⟩ ∈ kWG := List.mem_filter.mpr ⟨List.mem_of_getElem? (i := 729) (by decide +kernel), rfl⟩
theorem w_730 : Cond.code ⟨"ProxyVotes", "bestHolder", "(II)I"⟩ prog_1_method_27_code 7 (some FieldType.int) ∈ kWG := List.mem_filter.mpr ⟨List.mem_of_getElem? (i := 730) (by decide +kernel), rfl⟩
theorem w_731 : Cond.methodLink "ProxyVotesLaw" 119 ⟨"ProxyVotes", "put", "(J)I"⟩ ∈ kWG := List.mem_filter.mpr ⟨List.mem_of_getElem? (i := 731) (by decide +kernel), rfl⟩
theorem w_732 : Cond.instanceMethod ⟨"ProxyVotes", "put", "(J)I"⟩ ∈ kWG := List.mem_filter.mpr ⟨List.mem_of_getElem? (i := 732) (by decide +kernel), rfl⟩
theorem w_733 : Cond.selects "ProxyVotes" ⟨"ProxyVotes", "put", "(J)I"⟩ ⟨"ProxyVotes", "put", "(J)I"⟩ ∈ kWG := List.mem_filter.mpr ⟨List.mem_of_getElem? (i := 733) (by decide +kernel), rfl⟩
theorem w_734 : Cond.code ⟨"ProxyVotes", "put", "(J)I"⟩ prog_1_method_33_code 3 (some FieldType.int) ∈ kWG := List.mem_filter.mpr ⟨List.mem_of_getElem? (i := 734) (by decide +kernel), rfl⟩
theorem w_737 : Cond.instanceMethod ⟨"ProxyVotes$Pad", "append", "(J)I"⟩ ∈ kWG := List.mem_filter.mpr ⟨List.mem_of_getElem? (i := 737) (by decide +kernel), rfl⟩
theorem w_738 : Cond.code ⟨"ProxyVotes$Pad", "append", "(J)I"⟩ prog_7_method_2_code 8 (some FieldType.int) ∈ kWG := List.mem_filter.mpr ⟨List.mem_of_getElem? (i := 738) (by decide +kernel), rfl⟩
theorem w_739 : Cond.constantLong "ProxyVotes$Pad" 25 (255) ∈ kWG := List.mem_filter.mpr ⟨List.mem_of_getElem? (i := 739) (by decide +kernel), rfl⟩
theorem w_740 : Cond.constantLong "ProxyVotes$Pad" 27 (33) ∈ kWG := List.mem_filter.mpr ⟨List.mem_of_getElem? (i := 740) (by decide +kernel), rfl⟩
theorem w_741 : Cond.constantLong "ProxyVotes$Pad" 29 (126) ∈ kWG := List.mem_filter.mpr ⟨List.mem_of_getElem? (i := 741) (by decide +kernel), rfl⟩
theorem w_742 : Cond.methodLink "ProxyVotesLaw" 124 ⟨"ProxyVotes", "wipe", "()I"⟩ ∈ kWG := List.mem_filter.mpr ⟨List.mem_of_getElem? (i := 742) (by decide +kernel), rfl⟩
theorem w_743 : Cond.instanceMethod ⟨"ProxyVotes", "wipe", "()I"⟩ ∈ kWG := List.mem_filter.mpr ⟨List.mem_of_getElem? (i := 743) (by decide +kernel), rfl⟩
theorem w_744 : Cond.selects "ProxyVotes" ⟨"ProxyVotes", "wipe", "()I"⟩ ⟨"ProxyVotes", "wipe", "()I"⟩ ∈ kWG := List.mem_filter.mpr ⟨List.mem_of_getElem? (i := 744) (by decide +kernel), rfl⟩
theorem w_745 : Cond.code ⟨"ProxyVotes", "wipe", "()I"⟩ prog_1_method_34_code 1 (some FieldType.int) ∈ kWG := List.mem_filter.mpr ⟨List.mem_of_getElem? (i := 745) (by decide +kernel), rfl⟩
theorem w_748 : Cond.instanceMethod ⟨"ProxyVotes$Pad", "empty", "()I"⟩ ∈ kWG := List.mem_filter.mpr ⟨List.mem_of_getElem? (i := 748) (by decide +kernel), rfl⟩
theorem w_749 : Cond.code ⟨"ProxyVotes$Pad", "empty", "()I"⟩ prog_7_method_3_code 2 (some FieldType.int) ∈ kWG := List.mem_filter.mpr ⟨List.mem_of_getElem? (i := 749) (by decide +kernel), rfl⟩
theorem w_750 : Cond.methodLink "ProxyVotesLaw" 128 ⟨"ProxyVotes", "fault", "()I"⟩ ∈ kWG := List.mem_filter.mpr ⟨List.mem_of_getElem? (i := 750) (by decide +kernel), rfl⟩
theorem w_751 : Cond.instanceMethod ⟨"ProxyVotes", "fault", "()I"⟩ ∈ kWG := List.mem_filter.mpr ⟨List.mem_of_getElem? (i := 751) (by decide +kernel), rfl⟩
theorem w_752 : Cond.selects "ProxyVotes" ⟨"ProxyVotes", "fault", "()I"⟩ ⟨"ProxyVotes", "fault", "()I"⟩ ∈ kWG := List.mem_filter.mpr ⟨List.mem_of_getElem? (i := 752) (by decide +kernel), rfl⟩
theorem w_753 : Cond.code ⟨"ProxyVotes", "fault", "()I"⟩ prog_1_method_35_code 1 (some FieldType.int) ∈ kWG := List.mem_filter.mpr ⟨List.mem_of_getElem? (i := 753) (by decide +kernel), rfl⟩
theorem w_756 : Cond.instanceMethod ⟨"ProxyVotes$Pad", "read", "()I"⟩ ∈ kWG := List.mem_filter.mpr ⟨List.mem_of_getElem? (i := 756) (by decide +kernel), rfl⟩
theorem w_757 : Cond.code ⟨"ProxyVotes$Pad", "read", "()I"⟩ prog_7_method_4_code 2 (some FieldType.int) ∈ kWG := List.mem_filter.mpr ⟨List.mem_of_getElem? (i := 757) (by decide +kernel), rfl⟩
theorem w_758 : Cond.methodLink "ProxyVotes$Pad" 41 ⟨"ProxyVotes$Pad", "readOrder", "(I)Z"⟩ ∈ kWG := List.mem_filter.mpr ⟨List.mem_of_getElem? (i := 758) (by decide +kernel), rfl⟩
theorem w_760 : Cond.instanceMethod ⟨"ProxyVotes$Pad", "readOrder", "(I)Z"⟩ ∈ kWG := List.mem_filter.mpr ⟨List.mem_of_getElem? (i := 760) (by decide +kernel), rfl⟩
theorem w_761 : Cond.code ⟨"ProxyVotes$Pad", "readOrder", "(I)Z"⟩ prog_7_method_5_code 3 (some FieldType.boolean) ∈ kWG := List.mem_filter.mpr ⟨List.mem_of_getElem? (i := 761) (by decide +kernel), rfl⟩
theorem w_762 : Cond.methodLink "ProxyVotes$Pad" 45 ⟨"ProxyVotes$Pad", "ahead", "()C"⟩ ∈ kWG := List.mem_filter.mpr ⟨List.mem_of_getElem? (i := 762) (by decide +kernel), rfl⟩
theorem w_764 : Cond.instanceMethod ⟨"ProxyVotes$Pad", "ahead", "()C"⟩ ∈ kWG := List.mem_filter.mpr ⟨List.mem_of_getElem? (i := 764) (by decide +kernel), rfl⟩
theorem w_765 : Cond.code ⟨"ProxyVotes$Pad", "ahead", "()C"⟩ prog_7_method_9_code 1 (some FieldType.char) ∈ kWG := List.mem_filter.mpr ⟨List.mem_of_getElem? (i := 765) (by decide +kernel), rfl⟩
theorem w_766 : Cond.methodLink "ProxyVotes$Pad" 49 ⟨"ProxyVotes$Pad", "isSign", "(C)Z"⟩ ∈ kWG := List.mem_filter.mpr ⟨List.mem_of_getElem? (i := 766) (by decide +kernel), rfl⟩
theorem w_767 : Cond.static ⟨"ProxyVotes$Pad", "isSign", "(C)Z"⟩ ∈ kWG := List.mem_filter.mpr ⟨List.mem_of_getElem? (i := 767) (by decide +kernel), rfl⟩
theorem w_768 : Cond.code ⟨"ProxyVotes$Pad", "isSign", "(C)Z"⟩ prog_7_method_11_code 1 (some FieldType.boolean) ∈ kWG := List.mem_filter.mpr ⟨List.mem_of_getElem? (i := 768) (by decide +kernel), rfl⟩
theorem w_769 : Cond.methodLink "ProxyVotes$Pad" 53 ⟨"ProxyVotes$Pad", "readMember", "(I)Z"⟩ ∈ kWG := List.mem_filter.mpr ⟨List.mem_of_getElem? (i := 769) (by decide +kernel), rfl⟩
theorem w_771 : Cond.instanceMethod ⟨"ProxyVotes$Pad", "readMember", "(I)Z"⟩ ∈ kWG := List.mem_filter.mpr ⟨List.mem_of_getElem? (i := 771) (by decide +kernel), rfl⟩
theorem w_772 : Cond.code ⟨"ProxyVotes$Pad", "readMember", "(I)Z"⟩ prog_7_method_6_code 3 (some FieldType.boolean) ∈ kWG := List.mem_filter.mpr ⟨List.mem_of_getElem? (i := 772) (by decide +kernel), rfl⟩
theorem w_773 : Cond.methodLink "ProxyVotes$Pad" 56 ⟨"ProxyVotes$Pad", "readNumber", "(I)Z"⟩ ∈ kWG := List.mem_filter.mpr ⟨List.mem_of_getElem? (i := 773) (by decide +kernel), rfl⟩
theorem w_775 : Cond.instanceMethod ⟨"ProxyVotes$Pad", "readNumber", "(I)Z"⟩ ∈ kWG := List.mem_filter.mpr ⟨List.mem_of_getElem? (i := 775) (by decide +kernel), rfl⟩
theorem w_776 : Cond.code ⟨"ProxyVotes$Pad", "readNumber", "(I)Z"⟩ prog_7_method_8_code 4 (some FieldType.boolean) ∈ kWG := List.mem_filter.mpr ⟨List.mem_of_getElem? (i := 776) (by decide +kernel), rfl⟩
theorem w_777 : Cond.methodLink "ProxyVotes$Pad" 63 ⟨"ProxyVotes$Pad", "isDigit", "(C)Z"⟩ ∈ kWG := List.mem_filter.mpr ⟨List.mem_of_getElem? (i := 777) (by decide +kernel), rfl⟩
theorem w_778 : Cond.static ⟨"ProxyVotes$Pad", "isDigit", "(C)Z"⟩ ∈ kWG := List.mem_filter.mpr ⟨List.mem_of_getElem? (i := 778) (by decide +kernel), rfl⟩
theorem w_779 : Cond.code ⟨"ProxyVotes$Pad", "isDigit", "(C)Z"⟩ prog_7_method_10_code 1 (some FieldType.boolean) ∈ kWG := List.mem_filter.mpr ⟨List.mem_of_getElem? (i := 779) (by decide +kernel), rfl⟩
theorem w_780 : Cond.methodLink "ProxyVotes$Pad" 59 ⟨"ProxyVotes$Pad", "readChoice", "(IC)Z"⟩ ∈ kWG := List.mem_filter.mpr ⟨List.mem_of_getElem? (i := 780) (by decide +kernel), rfl⟩
theorem w_782 : Cond.instanceMethod ⟨"ProxyVotes$Pad", "readChoice", "(IC)Z"⟩ ∈ kWG := List.mem_filter.mpr ⟨List.mem_of_getElem? (i := 782) (by decide +kernel), rfl⟩
theorem w_783 : Cond.code ⟨"ProxyVotes$Pad", "readChoice", "(IC)Z"⟩ prog_7_method_7_code 4 (some FieldType.boolean) ∈ kWG := List.mem_filter.mpr ⟨List.mem_of_getElem? (i := 783) (by decide +kernel), rfl⟩
theorem w_784 : Cond.methodLink "ProxyVotesLaw" 132 ⟨"ProxyVotes", "carryOut", "()I"⟩ ∈ kWG := List.mem_filter.mpr ⟨List.mem_of_getElem? (i := 784) (by decide +kernel), rfl⟩
theorem w_785 : Cond.instanceMethod ⟨"ProxyVotes", "carryOut", "()I"⟩ ∈ kWG := List.mem_filter.mpr ⟨List.mem_of_getElem? (i := 785) (by decide +kernel), rfl⟩
theorem w_786 : Cond.selects "ProxyVotes" ⟨"ProxyVotes", "carryOut", "()I"⟩ ⟨"ProxyVotes", "carryOut", "()I"⟩ ∈ kWG := List.mem_filter.mpr ⟨List.mem_of_getElem? (i := 786) (by decide +kernel), rfl⟩
theorem w_787 : Cond.code ⟨"ProxyVotes", "carryOut", "()I"⟩ prog_1_method_36_code 2 (some FieldType.int) ∈ kWG := List.mem_filter.mpr ⟨List.mem_of_getElem? (i := 787) (by decide +kernel), rfl⟩
theorem w_788 : Cond.methodLink "ProxyVotes" 313 ⟨"ProxyVotes", "carry", "(I)I"⟩ ∈ kWG := List.mem_filter.mpr ⟨List.mem_of_getElem? (i := 788) (by decide +kernel), rfl⟩
theorem w_790 : Cond.instanceMethod ⟨"ProxyVotes", "carry", "(I)I"⟩ ∈ kWG := List.mem_filter.mpr ⟨List.mem_of_getElem? (i := 790) (by decide +kernel), rfl⟩
theorem w_791 : Cond.code ⟨"ProxyVotes", "carry", "(I)I"⟩ prog_1_method_37_code 4 (some FieldType.int) ∈ kWG := List.mem_filter.mpr ⟨List.mem_of_getElem? (i := 791) (by decide +kernel), rfl⟩
theorem w_792 : Cond.methodLink "ProxyVotes" 316 ⟨"ProxyVotes", "isError", "(I)Z"⟩ ∈ kWG := List.mem_filter.mpr ⟨List.mem_of_getElem? (i := 792) (by decide +kernel), rfl⟩
theorem w_793 : Cond.methodLink "ProxyVotesLaw" 136 ⟨"ProxyVotes", "undo", "()I"⟩ ∈ kWG := List.mem_filter.mpr ⟨List.mem_of_getElem? (i := 793) (by decide +kernel), rfl⟩
theorem w_794 : Cond.instanceMethod ⟨"ProxyVotes", "undo", "()I"⟩ ∈ kWG := List.mem_filter.mpr ⟨List.mem_of_getElem? (i := 794) (by decide +kernel), rfl⟩
theorem w_795 : Cond.selects "ProxyVotes" ⟨"ProxyVotes", "undo", "()I"⟩ ⟨"ProxyVotes", "undo", "()I"⟩ ∈ kWG := List.mem_filter.mpr ⟨List.mem_of_getElem? (i := 795) (by decide +kernel), rfl⟩
theorem w_796 : Cond.code ⟨"ProxyVotes", "undo", "()I"⟩ prog_1_method_38_code 1 (some FieldType.int) ∈ kWG := List.mem_filter.mpr ⟨List.mem_of_getElem? (i := 796) (by decide +kernel), rfl⟩
theorem w_799 : Cond.instanceMethod ⟨"ProxyVotes$History", "takeBack", "(LProxyVotes$Committee;)I"⟩ ∈ kWG := List.mem_filter.mpr ⟨List.mem_of_getElem? (i := 799) (by decide +kernel), rfl⟩
theorem w_800 : Cond.code ⟨"ProxyVotes$History", "takeBack", "(LProxyVotes$Committee;)I"⟩ prog_4_method_4_code 2 (some FieldType.int) ∈ kWG := List.mem_filter.mpr ⟨List.mem_of_getElem? (i := 800) (by decide +kernel), rfl⟩
theorem w_801 : Cond.methodLink "ProxyVotesLaw" 140 ⟨"ProxyVotes", "save", "(I)I"⟩ ∈ kWG := List.mem_filter.mpr ⟨List.mem_of_getElem? (i := 801) (by decide +kernel), rfl⟩
theorem w_802 : Cond.instanceMethod ⟨"ProxyVotes", "save", "(I)I"⟩ ∈ kWG := List.mem_filter.mpr ⟨List.mem_of_getElem? (i := 802) (by decide +kernel), rfl⟩
theorem w_803 : Cond.selects "ProxyVotes" ⟨"ProxyVotes", "save", "(I)I"⟩ ⟨"ProxyVotes", "save", "(I)I"⟩ ∈ kWG := List.mem_filter.mpr ⟨List.mem_of_getElem? (i := 803) (by decide +kernel), rfl⟩
theorem w_804 : Cond.code ⟨"ProxyVotes", "save", "(I)I"⟩ prog_1_method_39_code 2 (some FieldType.int) ∈ kWG := List.mem_filter.mpr ⟨List.mem_of_getElem? (i := 804) (by decide +kernel), rfl⟩
theorem w_805 : Cond.methodLink "ProxyVotesLaw" 144 ⟨"ProxyVotes", "restore", "(I)I"⟩ ∈ kWG := List.mem_filter.mpr ⟨List.mem_of_getElem? (i := 805) (by decide +kernel), rfl⟩
theorem w_806 : Cond.instanceMethod ⟨"ProxyVotes", "restore", "(I)I"⟩ ∈ kWG := List.mem_filter.mpr ⟨List.mem_of_getElem? (i := 806) (by decide +kernel), rfl⟩
theorem w_807 : Cond.selects "ProxyVotes" ⟨"ProxyVotes", "restore", "(I)I"⟩ ⟨"ProxyVotes", "restore", "(I)I"⟩ ∈ kWG := List.mem_filter.mpr ⟨List.mem_of_getElem? (i := 807) (by decide +kernel), rfl⟩
theorem w_808 : Cond.code ⟨"ProxyVotes", "restore", "(I)I"⟩ prog_1_method_40_code 2 (some FieldType.int) ∈ kWG := List.mem_filter.mpr ⟨List.mem_of_getElem? (i := 808) (by decide +kernel), rfl⟩
theorem w_809 : Cond.classLink "ProxyVotesLaw" 10 "ProxyVotesModel" ∈ kWG := List.mem_filter.mpr ⟨List.mem_of_getElem? (i := 809) (by decide +kernel), rfl⟩
theorem w_810 : Cond.instantiable "ProxyVotesModel" 16 ∈ kWG := List.mem_filter.mpr ⟨List.mem_of_getElem? (i := 810) (by decide +kernel), rfl⟩
theorem w_811 : Cond.methodLink "ProxyVotesLaw" 12 ⟨"ProxyVotesModel", "<init>", "()V"⟩ ∈ kWG := List.mem_filter.mpr ⟨List.mem_of_getElem? (i := 811) (by decide +kernel), rfl⟩
theorem w_812 : Cond.instanceMethod ⟨"ProxyVotesModel", "<init>", "()V"⟩ ∈ kWG := List.mem_filter.mpr ⟨List.mem_of_getElem? (i := 812) (by decide +kernel), rfl⟩
theorem w_813 : Cond.code ⟨"ProxyVotesModel", "<init>", "()V"⟩ prog_9_method_1_code 2 none ∈ kWG := List.mem_filter.mpr ⟨List.mem_of_getElem? (i := 813) (by decide +kernel), rfl⟩
theorem w_814 : Cond.methodLink "ProxyVotesModel" 1 ⟨"java/lang/Object", "<init>", "()V"⟩ ∈ kWG := List.mem_filter.mpr ⟨List.mem_of_getElem? (i := 814) (by decide +kernel), rfl⟩
theorem w_815 : Cond.fieldLink "ProxyVotesModel" 7 "ProxyVotesModel" "now" "[I" ∈ kWG := List.mem_filter.mpr ⟨List.mem_of_getElem? (i := 815) (by decide +kernel), rfl⟩
theorem w_816 : Cond.fieldLink "ProxyVotesModel" 13 "ProxyVotesModel" "kept" "[I" ∈ kWG := List.mem_filter.mpr ⟨List.mem_of_getElem? (i := 816) (by decide +kernel), rfl⟩
theorem w_817 : Cond.fieldLink "ProxyVotesModel" 16 "ProxyVotesModel" "history" "[I" ∈ kWG := List.mem_filter.mpr ⟨List.mem_of_getElem? (i := 817) (by decide +kernel), rfl⟩
theorem w_818 : Cond.fieldLink "ProxyVotesModel" 45 "ProxyVotesModel" "undos" "I" ∈ kWG := List.mem_filter.mpr ⟨List.mem_of_getElem? (i := 818) (by decide +kernel), rfl⟩
theorem w_819 : Cond.fieldLink "ProxyVotesModel" 19 "ProxyVotesModel" "saved" "[I" ∈ kWG := List.mem_filter.mpr ⟨List.mem_of_getElem? (i := 819) (by decide +kernel), rfl⟩
theorem w_820 : Cond.fieldLink "ProxyVotesModel" 22 "ProxyVotesModel" "isSaved" "[Z" ∈ kWG := List.mem_filter.mpr ⟨List.mem_of_getElem? (i := 820) (by decide +kernel), rfl⟩
theorem w_821 : Cond.fieldLink "ProxyVotesModel" 26 "ProxyVotesModel" "pad" "[I" ∈ kWG := List.mem_filter.mpr ⟨List.mem_of_getElem? (i := 821) (by decide +kernel), rfl⟩
theorem w_822 : Cond.fieldLink "ProxyVotesModel" 141 "ProxyVotesModel" "signs" "I" ∈ kWG := List.mem_filter.mpr ⟨List.mem_of_getElem? (i := 822) (by decide +kernel), rfl⟩
theorem w_823 : Cond.fieldLink "ProxyVotesModel" 41 "ProxyVotesModel" "isInText" "Z" ∈ kWG := List.mem_filter.mpr ⟨List.mem_of_getElem? (i := 823) (by decide +kernel), rfl⟩
theorem w_824 : Cond.fieldLink "ProxyVotesModel" 29 "ProxyVotesModel" "voice" "[I" ∈ kWG := List.mem_filter.mpr ⟨List.mem_of_getElem? (i := 824) (by decide +kernel), rfl⟩
theorem w_825 : Cond.fieldLink "ProxyVotesModel" 32 "ProxyVotesModel" "spoken" "[I" ∈ kWG := List.mem_filter.mpr ⟨List.mem_of_getElem? (i := 825) (by decide +kernel), rfl⟩
theorem w_826 : Cond.fieldLink "ProxyVotesModel" 35 "ProxyVotesModel" "sum" "[I" ∈ kWG := List.mem_filter.mpr ⟨List.mem_of_getElem? (i := 826) (by decide +kernel), rfl⟩
theorem w_827 : Cond.fieldLink "ProxyVotesModel" 38 "ProxyVotesModel" "orders" "[I" ∈ kWG := List.mem_filter.mpr ⟨List.mem_of_getElem? (i := 827) (by decide +kernel), rfl⟩
theorem w_828 : Cond.fieldLink "ProxyVotesModel" 168 "ProxyVotesModel" "ordered" "I" ∈ kWG := List.mem_filter.mpr ⟨List.mem_of_getElem? (i := 828) (by decide +kernel), rfl⟩
theorem w_829 : Cond.fieldLink "ProxyVotesModel" 156 "ProxyVotesModel" "place" "I" ∈ kWG := List.mem_filter.mpr ⟨List.mem_of_getElem? (i := 829) (by decide +kernel), rfl⟩
theorem w_830 : Cond.fieldLink "ProxyVotesModel" 162 "ProxyVotesModel" "isWrong" "Z" ∈ kWG := List.mem_filter.mpr ⟨List.mem_of_getElem? (i := 830) (by decide +kernel), rfl⟩
theorem w_831 : Cond.laysFinal "ProxyVotesModel" "ProxyVotesModel" "now" "[I" ∈ kWG := List.mem_filter.mpr ⟨List.mem_of_getElem? (i := 831) (by decide +kernel), rfl⟩
theorem w_833 : Cond.laysFinal "ProxyVotesModel" "ProxyVotesModel" "kept" "[I" ∈ kWG := List.mem_filter.mpr ⟨List.mem_of_getElem? (i := 833) (by decide +kernel), rfl⟩
theorem w_835 : Cond.laysFinal "ProxyVotesModel" "ProxyVotesModel" "history" "[I" ∈ kWG := List.mem_filter.mpr ⟨List.mem_of_getElem? (i := 835) (by decide +kernel), rfl⟩
theorem w_837 : Cond.lays "ProxyVotesModel" "ProxyVotesModel" "undos" "I" ∈ kWG := List.mem_filter.mpr ⟨List.mem_of_getElem? (i := 837) (by decide +kernel), rfl⟩
theorem w_839 : Cond.laysFinal "ProxyVotesModel" "ProxyVotesModel" "saved" "[I" ∈ kWG := List.mem_filter.mpr ⟨List.mem_of_getElem? (i := 839) (by decide +kernel), rfl⟩
theorem w_841 : Cond.laysFinal "ProxyVotesModel" "ProxyVotesModel" "isSaved" "[Z" ∈ kWG := List.mem_filter.mpr ⟨List.mem_of_getElem? (i := 841) (by decide +kernel), rfl⟩
theorem w_843 : Cond.laysFinal "ProxyVotesModel" "ProxyVotesModel" "pad" "[I" ∈ kWG := List.mem_filter.mpr ⟨List.mem_of_getElem? (i := 843) (by decide +kernel), rfl⟩
theorem w_845 : Cond.lays "ProxyVotesModel" "ProxyVotesModel" "signs" "I" ∈ kWG := List.mem_filter.mpr ⟨List.mem_of_getElem? (i := 845) (by decide +kernel), rfl⟩
theorem w_847 : Cond.lays "ProxyVotesModel" "ProxyVotesModel" "isInText" "Z" ∈ kWG := List.mem_filter.mpr ⟨List.mem_of_getElem? (i := 847) (by decide +kernel), rfl⟩
theorem w_849 : Cond.laysFinal "ProxyVotesModel" "ProxyVotesModel" "voice" "[I" ∈ kWG := List.mem_filter.mpr ⟨List.mem_of_getElem? (i := 849) (by decide +kernel), rfl⟩
theorem w_851 : Cond.laysFinal "ProxyVotesModel" "ProxyVotesModel" "spoken" "[I" ∈ kWG := List.mem_filter.mpr ⟨List.mem_of_getElem? (i := 851) (by decide +kernel), rfl⟩
theorem w_853 : Cond.laysFinal "ProxyVotesModel" "ProxyVotesModel" "sum" "[I" ∈ kWG := List.mem_filter.mpr ⟨List.mem_of_getElem? (i := 853) (by decide +kernel), rfl⟩
theorem w_855 : Cond.laysFinal "ProxyVotesModel" "ProxyVotesModel" "orders" "[I" ∈ kWG := List.mem_filter.mpr ⟨List.mem_of_getElem? (i := 855) (by decide +kernel), rfl⟩
theorem w_857 : Cond.lays "ProxyVotesModel" "ProxyVotesModel" "ordered" "I" ∈ kWG := List.mem_filter.mpr ⟨List.mem_of_getElem? (i := 857) (by decide +kernel), rfl⟩
theorem w_859 : Cond.lays "ProxyVotesModel" "ProxyVotesModel" "place" "I" ∈ kWG := List.mem_filter.mpr ⟨List.mem_of_getElem? (i := 859) (by decide +kernel), rfl⟩
theorem w_861 : Cond.lays "ProxyVotesModel" "ProxyVotesModel" "isWrong" "Z" ∈ kWG := List.mem_filter.mpr ⟨List.mem_of_getElem? (i := 861) (by decide +kernel), rfl⟩
theorem w_864 : Cond.methodLink "ProxyVotesLaw" 17 ⟨"ProxyVotesModel", "set", "(II)I"⟩ ∈ kWG := List.mem_filter.mpr ⟨List.mem_of_getElem? (i := 864) (by decide +kernel), rfl⟩
theorem w_865 : Cond.instanceMethod ⟨"ProxyVotesModel", "set", "(II)I"⟩ ∈ kWG := List.mem_filter.mpr ⟨List.mem_of_getElem? (i := 865) (by decide +kernel), rfl⟩
theorem w_866 : Cond.selects "ProxyVotesModel" ⟨"ProxyVotesModel", "set", "(II)I"⟩ ⟨"ProxyVotesModel", "set", "(II)I"⟩ ∈ kWG := List.mem_filter.mpr ⟨List.mem_of_getElem? (i := 866) (by decide +kernel), rfl⟩
theorem w_867 : Cond.code ⟨"ProxyVotesModel", "set", "(II)I"⟩ prog_9_method_8_code 5 (some FieldType.int) ∈ kWG := List.mem_filter.mpr ⟨List.mem_of_getElem? (i := 867) (by decide +kernel), rfl⟩
theorem w_868 : Cond.methodLink "ProxyVotesModel" 49 ⟨"ProxyVotesModel", "in", "(III)Z"⟩ ∈ kWG := List.mem_filter.mpr ⟨List.mem_of_getElem? (i := 868) (by decide +kernel), rfl⟩
theorem w_869 : Cond.static ⟨"ProxyVotesModel", "in", "(III)Z"⟩ ∈ kWG := List.mem_filter.mpr ⟨List.mem_of_getElem? (i := 869) (by decide +kernel), rfl⟩
theorem w_870 : Cond.code ⟨"ProxyVotesModel", "in", "(III)Z"⟩ prog_9_method_2_code 3 (some FieldType.boolean) ∈ kWG := List.mem_filter.mpr ⟨List.mem_of_getElem? (i := 870) (by decide +kernel), rfl⟩
theorem w_871 : Cond.methodLink "ProxyVotesModel" 53 ⟨"ProxyVotesModel", "record", "()V"⟩ ∈ kWG := List.mem_filter.mpr ⟨List.mem_of_getElem? (i := 871) (by decide +kernel), rfl⟩
theorem w_873 : Cond.instanceMethod ⟨"ProxyVotesModel", "record", "()V"⟩ ∈ kWG := List.mem_filter.mpr ⟨List.mem_of_getElem? (i := 873) (by decide +kernel), rfl⟩
theorem w_874 : Cond.code ⟨"ProxyVotesModel", "record", "()V"⟩ prog_9_method_5_code 2 none ∈ kWG := List.mem_filter.mpr ⟨List.mem_of_getElem? (i := 874) (by decide +kernel), rfl⟩
theorem w_875 : Cond.methodLink "ProxyVotesLaw" 21 ⟨"ProxyVotesModel", "member", "(II)I"⟩ ∈ kWG := List.mem_filter.mpr ⟨List.mem_of_getElem? (i := 875) (by decide +kernel), rfl⟩
theorem w_876 : Cond.instanceMethod ⟨"ProxyVotesModel", "member", "(II)I"⟩ ∈ kWG := List.mem_filter.mpr ⟨List.mem_of_getElem? (i := 876) (by decide +kernel), rfl⟩
theorem w_877 : Cond.selects "ProxyVotesModel" ⟨"ProxyVotesModel", "member", "(II)I"⟩ ⟨"ProxyVotesModel", "member", "(II)I"⟩ ∈ kWG := List.mem_filter.mpr ⟨List.mem_of_getElem? (i := 877) (by decide +kernel), rfl⟩
theorem w_878 : Cond.code ⟨"ProxyVotesModel", "member", "(II)I"⟩ prog_9_method_9_code 4 (some FieldType.int) ∈ kWG := List.mem_filter.mpr ⟨List.mem_of_getElem? (i := 878) (by decide +kernel), rfl⟩
theorem w_879 : Cond.methodLink "ProxyVotesLaw" 25 ⟨"ProxyVotesModel", "item", "(II)I"⟩ ∈ kWG := List.mem_filter.mpr ⟨List.mem_of_getElem? (i := 879) (by decide +kernel), rfl⟩
theorem w_880 : Cond.instanceMethod ⟨"ProxyVotesModel", "item", "(II)I"⟩ ∈ kWG := List.mem_filter.mpr ⟨List.mem_of_getElem? (i := 880) (by decide +kernel), rfl⟩
theorem w_881 : Cond.selects "ProxyVotesModel" ⟨"ProxyVotesModel", "item", "(II)I"⟩ ⟨"ProxyVotesModel", "item", "(II)I"⟩ ∈ kWG := List.mem_filter.mpr ⟨List.mem_of_getElem? (i := 881) (by decide +kernel), rfl⟩
theorem w_882 : Cond.code ⟨"ProxyVotesModel", "item", "(II)I"⟩ prog_9_method_10_code 4 (some FieldType.int) ∈ kWG := List.mem_filter.mpr ⟨List.mem_of_getElem? (i := 882) (by decide +kernel), rfl⟩
theorem w_883 : Cond.methodLink "ProxyVotesLaw" 30 ⟨"ProxyVotesModel", "chair", "(I)I"⟩ ∈ kWG := List.mem_filter.mpr ⟨List.mem_of_getElem? (i := 883) (by decide +kernel), rfl⟩
theorem w_884 : Cond.instanceMethod ⟨"ProxyVotesModel", "chair", "(I)I"⟩ ∈ kWG := List.mem_filter.mpr ⟨List.mem_of_getElem? (i := 884) (by decide +kernel), rfl⟩
theorem w_885 : Cond.selects "ProxyVotesModel" ⟨"ProxyVotesModel", "chair", "(I)I"⟩ ⟨"ProxyVotesModel", "chair", "(I)I"⟩ ∈ kWG := List.mem_filter.mpr ⟨List.mem_of_getElem? (i := 885) (by decide +kernel), rfl⟩
theorem w_886 : Cond.code ⟨"ProxyVotesModel", "chair", "(I)I"⟩ prog_9_method_16_code 3 (some FieldType.int) ∈ kWG := List.mem_filter.mpr ⟨List.mem_of_getElem? (i := 886) (by decide +kernel), rfl⟩
theorem w_887 : Cond.methodLink "ProxyVotesModel" 56 ⟨"ProxyVotesModel", "isMember", "(I)Z"⟩ ∈ kWG := List.mem_filter.mpr ⟨List.mem_of_getElem? (i := 887) (by decide +kernel), rfl⟩
theorem w_889 : Cond.instanceMethod ⟨"ProxyVotesModel", "isMember", "(I)Z"⟩ ∈ kWG := List.mem_filter.mpr ⟨List.mem_of_getElem? (i := 889) (by decide +kernel), rfl⟩
theorem w_890 : Cond.code ⟨"ProxyVotesModel", "isMember", "(I)Z"⟩ prog_9_method_11_code 2 (some FieldType.boolean) ∈ kWG := List.mem_filter.mpr ⟨List.mem_of_getElem? (i := 890) (by decide +kernel), rfl⟩
theorem w_891 : Cond.methodLink "ProxyVotesLaw" 34 ⟨"ProxyVotesModel", "come", "(I)I"⟩ ∈ kWG := List.mem_filter.mpr ⟨List.mem_of_getElem? (i := 891) (by decide +kernel), rfl⟩
theorem w_892 : Cond.instanceMethod ⟨"ProxyVotesModel", "come", "(I)I"⟩ ∈ kWG := List.mem_filter.mpr ⟨List.mem_of_getElem? (i := 892) (by decide +kernel), rfl⟩
theorem w_893 : Cond.selects "ProxyVotesModel" ⟨"ProxyVotesModel", "come", "(I)I"⟩ ⟨"ProxyVotesModel", "come", "(I)I"⟩ ∈ kWG := List.mem_filter.mpr ⟨List.mem_of_getElem? (i := 893) (by decide +kernel), rfl⟩
theorem w_894 : Cond.code ⟨"ProxyVotesModel", "come", "(I)I"⟩ prog_9_method_20_code 2 (some FieldType.int) ∈ kWG := List.mem_filter.mpr ⟨List.mem_of_getElem? (i := 894) (by decide +kernel), rfl⟩
theorem w_895 : Cond.methodLink "ProxyVotesModel" 75 ⟨"ProxyVotesModel", "turnTo", "(II)I"⟩ ∈ kWG := List.mem_filter.mpr ⟨List.mem_of_getElem? (i := 895) (by decide +kernel), rfl⟩
theorem w_897 : Cond.instanceMethod ⟨"ProxyVotesModel", "turnTo", "(II)I"⟩ ∈ kWG := List.mem_filter.mpr ⟨List.mem_of_getElem? (i := 897) (by decide +kernel), rfl⟩
theorem w_898 : Cond.code ⟨"ProxyVotesModel", "turnTo", "(II)I"⟩ prog_9_method_19_code 3 (some FieldType.int) ∈ kWG := List.mem_filter.mpr ⟨List.mem_of_getElem? (i := 898) (by decide +kernel), rfl⟩
theorem w_899 : Cond.methodLink "ProxyVotesModel" 60 ⟨"ProxyVotesModel", "ofOne", "(II)I"⟩ ∈ kWG := List.mem_filter.mpr ⟨List.mem_of_getElem? (i := 899) (by decide +kernel), rfl⟩
theorem w_901 : Cond.instanceMethod ⟨"ProxyVotesModel", "ofOne", "(II)I"⟩ ∈ kWG := List.mem_filter.mpr ⟨List.mem_of_getElem? (i := 901) (by decide +kernel), rfl⟩
theorem w_902 : Cond.code ⟨"ProxyVotesModel", "ofOne", "(II)I"⟩ prog_9_method_13_code 3 (some FieldType.int) ∈ kWG := List.mem_filter.mpr ⟨List.mem_of_getElem? (i := 902) (by decide +kernel), rfl⟩
theorem w_903 : Cond.methodLink "ProxyVotesModel" 67 ⟨"ProxyVotesModel", "present", "()I"⟩ ∈ kWG := List.mem_filter.mpr ⟨List.mem_of_getElem? (i := 903) (by decide +kernel), rfl⟩
theorem w_905 : Cond.instanceMethod ⟨"ProxyVotesModel", "present", "()I"⟩ ∈ kWG := List.mem_filter.mpr ⟨List.mem_of_getElem? (i := 905) (by decide +kernel), rfl⟩
theorem w_906 : Cond.code ⟨"ProxyVotesModel", "present", "()I"⟩ prog_9_method_18_code 3 (some FieldType.int) ∈ kWG := List.mem_filter.mpr ⟨List.mem_of_getElem? (i := 906) (by decide +kernel), rfl⟩
theorem w_907 : Cond.methodLink "ProxyVotesModel" 64 ⟨"ProxyVotesModel", "isPresent", "(I)Z"⟩ ∈ kWG := List.mem_filter.mpr ⟨List.mem_of_getElem? (i := 907) (by decide +kernel), rfl⟩
theorem w_909 : Cond.instanceMethod ⟨"ProxyVotesModel", "isPresent", "(I)Z"⟩ ∈ kWG := List.mem_filter.mpr ⟨List.mem_of_getElem? (i := 909) (by decide +kernel), rfl⟩
theorem w_910 : Cond.code ⟨"ProxyVotesModel", "isPresent", "(I)Z"⟩ prog_9_method_17_code 2 (some FieldType.boolean) ∈ kWG := List.mem_filter.mpr ⟨List.mem_of_getElem? (i := 910) (by decide +kernel), rfl⟩
theorem w_911 : Cond.methodLink "ProxyVotesModel" 71 ⟨"ProxyVotesModel", "bits", "(I)I"⟩ ∈ kWG := List.mem_filter.mpr ⟨List.mem_of_getElem? (i := 911) (by decide +kernel), rfl⟩
theorem w_912 : Cond.static ⟨"ProxyVotesModel", "bits", "(I)I"⟩ ∈ kWG := List.mem_filter.mpr ⟨List.mem_of_getElem? (i := 912) (by decide +kernel), rfl⟩
theorem w_913 : Cond.code ⟨"ProxyVotesModel", "bits", "(I)I"⟩ prog_9_method_4_code 3 (some FieldType.int) ∈ kWG := List.mem_filter.mpr ⟨List.mem_of_getElem? (i := 913) (by decide +kernel), rfl⟩
theorem w_914 : Cond.methodLink "ProxyVotesLaw" 38 ⟨"ProxyVotesModel", "go", "(I)I"⟩ ∈ kWG := List.mem_filter.mpr ⟨List.mem_of_getElem? (i := 914) (by decide +kernel), rfl⟩
theorem w_915 : Cond.instanceMethod ⟨"ProxyVotesModel", "go", "(I)I"⟩ ∈ kWG := List.mem_filter.mpr ⟨List.mem_of_getElem? (i := 915) (by decide +kernel), rfl⟩
theorem w_916 : Cond.selects "ProxyVotesModel" ⟨"ProxyVotesModel", "go", "(I)I"⟩ ⟨"ProxyVotesModel", "go", "(I)I"⟩ ∈ kWG := List.mem_filter.mpr ⟨List.mem_of_getElem? (i := 916) (by decide +kernel), rfl⟩
theorem w_917 : Cond.code ⟨"ProxyVotesModel", "go", "(I)I"⟩ prog_9_method_21_code 2 (some FieldType.int) ∈ kWG := List.mem_filter.mpr ⟨List.mem_of_getElem? (i := 917) (by decide +kernel), rfl⟩
theorem w_918 : Cond.methodLink "ProxyVotesLaw" 43 ⟨"ProxyVotesModel", "later", "(III)I"⟩ ∈ kWG := List.mem_filter.mpr ⟨List.mem_of_getElem? (i := 918) (by decide +kernel), rfl⟩
theorem w_919 : Cond.instanceMethod ⟨"ProxyVotesModel", "later", "(III)I"⟩ ∈ kWG := List.mem_filter.mpr ⟨List.mem_of_getElem? (i := 919) (by decide +kernel), rfl⟩
theorem w_920 : Cond.selects "ProxyVotesModel" ⟨"ProxyVotesModel", "later", "(III)I"⟩ ⟨"ProxyVotesModel", "later", "(III)I"⟩ ∈ kWG := List.mem_filter.mpr ⟨List.mem_of_getElem? (i := 920) (by decide +kernel), rfl⟩
theorem w_921 : Cond.code ⟨"ProxyVotesModel", "later", "(III)I"⟩ prog_9_method_22_code 5 (some FieldType.int) ∈ kWG := List.mem_filter.mpr ⟨List.mem_of_getElem? (i := 921) (by decide +kernel), rfl⟩
theorem w_922 : Cond.methodLink "ProxyVotesLaw" 47 ⟨"ProxyVotesModel", "proxy", "(III)I"⟩ ∈ kWG := List.mem_filter.mpr ⟨List.mem_of_getElem? (i := 922) (by decide +kernel), rfl⟩
theorem w_923 : Cond.instanceMethod ⟨"ProxyVotesModel", "proxy", "(III)I"⟩ ∈ kWG := List.mem_filter.mpr ⟨List.mem_of_getElem? (i := 923) (by decide +kernel), rfl⟩
theorem w_924 : Cond.selects "ProxyVotesModel" ⟨"ProxyVotesModel", "proxy", "(III)I"⟩ ⟨"ProxyVotesModel", "proxy", "(III)I"⟩ ∈ kWG := List.mem_filter.mpr ⟨List.mem_of_getElem? (i := 924) (by decide +kernel), rfl⟩
theorem w_925 : Cond.code ⟨"ProxyVotesModel", "proxy", "(III)I"⟩ prog_9_method_23_code 6 (some FieldType.int) ∈ kWG := List.mem_filter.mpr ⟨List.mem_of_getElem? (i := 925) (by decide +kernel), rfl⟩
theorem w_926 : Cond.methodLink "ProxyVotesModel" 78 ⟨"ProxyVotesModel", "isItem", "(I)Z"⟩ ∈ kWG := List.mem_filter.mpr ⟨List.mem_of_getElem? (i := 926) (by decide +kernel), rfl⟩
theorem w_928 : Cond.instanceMethod ⟨"ProxyVotesModel", "isItem", "(I)Z"⟩ ∈ kWG := List.mem_filter.mpr ⟨List.mem_of_getElem? (i := 928) (by decide +kernel), rfl⟩
theorem w_929 : Cond.code ⟨"ProxyVotesModel", "isItem", "(I)Z"⟩ prog_9_method_12_code 2 (some FieldType.boolean) ∈ kWG := List.mem_filter.mpr ⟨List.mem_of_getElem? (i := 929) (by decide +kernel), rfl⟩
theorem w_930 : Cond.methodLink "ProxyVotesLaw" 51 ⟨"ProxyVotesModel", "tell", "(III)I"⟩ ∈ kWG := List.mem_filter.mpr ⟨List.mem_of_getElem? (i := 930) (by decide +kernel), rfl⟩
theorem w_931 : Cond.instanceMethod ⟨"ProxyVotesModel", "tell", "(III)I"⟩ ∈ kWG := List.mem_filter.mpr ⟨List.mem_of_getElem? (i := 931) (by decide +kernel), rfl⟩
theorem w_932 : Cond.selects "ProxyVotesModel" ⟨"ProxyVotesModel", "tell", "(III)I"⟩ ⟨"ProxyVotesModel", "tell", "(III)I"⟩ ∈ kWG := List.mem_filter.mpr ⟨List.mem_of_getElem? (i := 932) (by decide +kernel), rfl⟩
theorem w_933 : Cond.code ⟨"ProxyVotesModel", "tell", "(III)I"⟩ prog_9_method_25_code 6 (some FieldType.int) ∈ kWG := List.mem_filter.mpr ⟨List.mem_of_getElem? (i := 933) (by decide +kernel), rfl⟩
theorem w_934 : Cond.methodLink "ProxyVotesModel" 84 ⟨"ProxyVotesModel", "isAhead", "(I)Z"⟩ ∈ kWG := List.mem_filter.mpr ⟨List.mem_of_getElem? (i := 934) (by decide +kernel), rfl⟩
theorem w_936 : Cond.instanceMethod ⟨"ProxyVotesModel", "isAhead", "(I)Z"⟩ ∈ kWG := List.mem_filter.mpr ⟨List.mem_of_getElem? (i := 936) (by decide +kernel), rfl⟩
theorem w_937 : Cond.code ⟨"ProxyVotesModel", "isAhead", "(I)Z"⟩ prog_9_method_24_code 2 (some FieldType.boolean) ∈ kWG := List.mem_filter.mpr ⟨List.mem_of_getElem? (i := 937) (by decide +kernel), rfl⟩
theorem w_938 : Cond.methodLink "ProxyVotesModel" 81 ⟨"ProxyVotesModel", "stateOf", "(I)I"⟩ ∈ kWG := List.mem_filter.mpr ⟨List.mem_of_getElem? (i := 938) (by decide +kernel), rfl⟩
theorem w_940 : Cond.instanceMethod ⟨"ProxyVotesModel", "stateOf", "(I)I"⟩ ∈ kWG := List.mem_filter.mpr ⟨List.mem_of_getElem? (i := 940) (by decide +kernel), rfl⟩
theorem w_941 : Cond.code ⟨"ProxyVotesModel", "stateOf", "(I)I"⟩ prog_9_method_14_code 2 (some FieldType.int) ∈ kWG := List.mem_filter.mpr ⟨List.mem_of_getElem? (i := 941) (by decide +kernel), rfl⟩
theorem w_942 : Cond.methodLink "ProxyVotesLaw" 55 ⟨"ProxyVotesModel", "recuse", "(III)I"⟩ ∈ kWG := List.mem_filter.mpr ⟨List.mem_of_getElem? (i := 942) (by decide +kernel), rfl⟩
theorem w_943 : Cond.instanceMethod ⟨"ProxyVotesModel", "recuse", "(III)I"⟩ ∈ kWG := List.mem_filter.mpr ⟨List.mem_of_getElem? (i := 943) (by decide +kernel), rfl⟩
theorem w_944 : Cond.selects "ProxyVotesModel" ⟨"ProxyVotesModel", "recuse", "(III)I"⟩ ⟨"ProxyVotesModel", "recuse", "(III)I"⟩ ∈ kWG := List.mem_filter.mpr ⟨List.mem_of_getElem? (i := 944) (by decide +kernel), rfl⟩
theorem w_945 : Cond.code ⟨"ProxyVotesModel", "recuse", "(III)I"⟩ prog_9_method_27_code 5 (some FieldType.int) ∈ kWG := List.mem_filter.mpr ⟨List.mem_of_getElem? (i := 945) (by decide +kernel), rfl⟩
theorem w_946 : Cond.methodLink "ProxyVotesModel" 91 ⟨"ProxyVotesModel", "isRecused", "(II)Z"⟩ ∈ kWG := List.mem_filter.mpr ⟨List.mem_of_getElem? (i := 946) (by decide +kernel), rfl⟩
theorem w_948 : Cond.instanceMethod ⟨"ProxyVotesModel", "isRecused", "(II)Z"⟩ ∈ kWG := List.mem_filter.mpr ⟨List.mem_of_getElem? (i := 948) (by decide +kernel), rfl⟩
theorem w_949 : Cond.code ⟨"ProxyVotesModel", "isRecused", "(II)Z"⟩ prog_9_method_26_code 4 (some FieldType.boolean) ∈ kWG := List.mem_filter.mpr ⟨List.mem_of_getElem? (i := 949) (by decide +kernel), rfl⟩
theorem w_950 : Cond.methodLink "ProxyVotesModel" 87 ⟨"ProxyVotesModel", "has", "(II)Z"⟩ ∈ kWG := List.mem_filter.mpr ⟨List.mem_of_getElem? (i := 950) (by decide +kernel), rfl⟩
theorem w_951 : Cond.static ⟨"ProxyVotesModel", "has", "(II)Z"⟩ ∈ kWG := List.mem_filter.mpr ⟨List.mem_of_getElem? (i := 951) (by decide +kernel), rfl⟩
theorem w_952 : Cond.code ⟨"ProxyVotesModel", "has", "(II)Z"⟩ prog_9_method_3_code 2 (some FieldType.boolean) ∈ kWG := List.mem_filter.mpr ⟨List.mem_of_getElem? (i := 952) (by decide +kernel), rfl⟩
theorem w_953 : Cond.methodLink "ProxyVotesLaw" 59 ⟨"ProxyVotesModel", "open", "(I)I"⟩ ∈ kWG := List.mem_filter.mpr ⟨List.mem_of_getElem? (i := 953) (by decide +kernel), rfl⟩
theorem w_954 : Cond.instanceMethod ⟨"ProxyVotesModel", "open", "(I)I"⟩ ∈ kWG := List.mem_filter.mpr ⟨List.mem_of_getElem? (i := 954) (by decide +kernel), rfl⟩
theorem w_955 : Cond.selects "ProxyVotesModel" ⟨"ProxyVotesModel", "open", "(I)I"⟩ ⟨"ProxyVotesModel", "open", "(I)I"⟩ ∈ kWG := List.mem_filter.mpr ⟨List.mem_of_getElem? (i := 955) (by decide +kernel), rfl⟩
theorem w_956 : Cond.code ⟨"ProxyVotesModel", "open", "(I)I"⟩ prog_9_method_38_code 2 (some FieldType.int) ∈ kWG := List.mem_filter.mpr ⟨List.mem_of_getElem? (i := 956) (by decide +kernel), rfl⟩
theorem w_957 : Cond.methodLink "ProxyVotesModel" 120 ⟨"ProxyVotesModel", "itemIn", "(I)I"⟩ ∈ kWG := List.mem_filter.mpr ⟨List.mem_of_getElem? (i := 957) (by decide +kernel), rfl⟩
theorem w_959 : Cond.instanceMethod ⟨"ProxyVotesModel", "itemIn", "(I)I"⟩ ∈ kWG := List.mem_filter.mpr ⟨List.mem_of_getElem? (i := 959) (by decide +kernel), rfl⟩
theorem w_960 : Cond.code ⟨"ProxyVotesModel", "itemIn", "(I)I"⟩ prog_9_method_37_code 4 (some FieldType.int) ∈ kWG := List.mem_filter.mpr ⟨List.mem_of_getElem? (i := 960) (by decide +kernel), rfl⟩
theorem w_961 : Cond.methodLink "ProxyVotesModel" 123 ⟨"ProxyVotesModel", "isQuorum", "(I)Z"⟩ ∈ kWG := List.mem_filter.mpr ⟨List.mem_of_getElem? (i := 961) (by decide +kernel), rfl⟩
theorem w_963 : Cond.instanceMethod ⟨"ProxyVotesModel", "isQuorum", "(I)Z"⟩ ∈ kWG := List.mem_filter.mpr ⟨List.mem_of_getElem? (i := 963) (by decide +kernel), rfl⟩
theorem w_964 : Cond.code ⟨"ProxyVotesModel", "isQuorum", "(I)Z"⟩ prog_9_method_35_code 3 (some FieldType.boolean) ∈ kWG := List.mem_filter.mpr ⟨List.mem_of_getElem? (i := 964) (by decide +kernel), rfl⟩
theorem w_965 : Cond.methodLink "ProxyVotesModel" 111 ⟨"ProxyVotesModel", "weightThere", "(I)I"⟩ ∈ kWG := List.mem_filter.mpr ⟨List.mem_of_getElem? (i := 965) (by decide +kernel), rfl⟩
theorem w_967 : Cond.instanceMethod ⟨"ProxyVotesModel", "weightThere", "(I)I"⟩ ∈ kWG := List.mem_filter.mpr ⟨List.mem_of_getElem? (i := 967) (by decide +kernel), rfl⟩
theorem w_968 : Cond.code ⟨"ProxyVotesModel", "weightThere", "(I)I"⟩ prog_9_method_34_code 4 (some FieldType.int) ∈ kWG := List.mem_filter.mpr ⟨List.mem_of_getElem? (i := 968) (by decide +kernel), rfl⟩
theorem w_969 : Cond.methodLink "ProxyVotesModel" 104 ⟨"ProxyVotesModel", "layVoices", "(I)V"⟩ ∈ kWG := List.mem_filter.mpr ⟨List.mem_of_getElem? (i := 969) (by decide +kernel), rfl⟩
theorem w_971 : Cond.instanceMethod ⟨"ProxyVotesModel", "layVoices", "(I)V"⟩ ∈ kWG := List.mem_filter.mpr ⟨List.mem_of_getElem? (i := 971) (by decide +kernel), rfl⟩
theorem w_972 : Cond.code ⟨"ProxyVotesModel", "layVoices", "(I)V"⟩ prog_9_method_30_code 4 none ∈ kWG := List.mem_filter.mpr ⟨List.mem_of_getElem? (i := 972) (by decide +kernel), rfl⟩
theorem w_973 : Cond.methodLink "ProxyVotesModel" 101 ⟨"ProxyVotesModel", "endOf", "(II)I"⟩ ∈ kWG := List.mem_filter.mpr ⟨List.mem_of_getElem? (i := 973) (by decide +kernel), rfl⟩
theorem w_975 : Cond.instanceMethod ⟨"ProxyVotesModel", "endOf", "(II)I"⟩ ∈ kWG := List.mem_filter.mpr ⟨List.mem_of_getElem? (i := 975) (by decide +kernel), rfl⟩
theorem w_976 : Cond.code ⟨"ProxyVotesModel", "endOf", "(II)I"⟩ prog_9_method_29_code 5 (some FieldType.int) ∈ kWG := List.mem_filter.mpr ⟨List.mem_of_getElem? (i := 976) (by decide +kernel), rfl⟩
theorem w_977 : Cond.methodLink "ProxyVotesModel" 98 ⟨"ProxyVotesModel", "holderOf", "(II)I"⟩ ∈ kWG := List.mem_filter.mpr ⟨List.mem_of_getElem? (i := 977) (by decide +kernel), rfl⟩
theorem w_979 : Cond.instanceMethod ⟨"ProxyVotesModel", "holderOf", "(II)I"⟩ ∈ kWG := List.mem_filter.mpr ⟨List.mem_of_getElem? (i := 979) (by decide +kernel), rfl⟩
theorem w_980 : Cond.code ⟨"ProxyVotesModel", "holderOf", "(II)I"⟩ prog_9_method_28_code 3 (some FieldType.int) ∈ kWG := List.mem_filter.mpr ⟨List.mem_of_getElem? (i := 980) (by decide +kernel), rfl⟩
theorem w_981 : Cond.methodLink "ProxyVotesModel" 94 ⟨"ProxyVotesModel", "pair", "(III)I"⟩ ∈ kWG := List.mem_filter.mpr ⟨List.mem_of_getElem? (i := 981) (by decide +kernel), rfl⟩
theorem w_983 : Cond.instanceMethod ⟨"ProxyVotesModel", "pair", "(III)I"⟩ ∈ kWG := List.mem_filter.mpr ⟨List.mem_of_getElem? (i := 983) (by decide +kernel), rfl⟩
theorem w_984 : Cond.code ⟨"ProxyVotesModel", "pair", "(III)I"⟩ prog_9_method_15_code 4 (some FieldType.int) ∈ kWG := List.mem_filter.mpr ⟨List.mem_of_getElem? (i := 984) (by decide +kernel), rfl⟩
theorem w_985 : Cond.methodLink "ProxyVotesModel" 114 ⟨"ProxyVotesModel", "allWeight", "()I"⟩ ∈ kWG := List.mem_filter.mpr ⟨List.mem_of_getElem? (i := 985) (by decide +kernel), rfl⟩
theorem w_987 : Cond.instanceMethod ⟨"ProxyVotesModel", "allWeight", "()I"⟩ ∈ kWG := List.mem_filter.mpr ⟨List.mem_of_getElem? (i := 987) (by decide +kernel), rfl⟩
theorem w_988 : Cond.code ⟨"ProxyVotesModel", "allWeight", "()I"⟩ prog_9_method_33_code 3 (some FieldType.int) ∈ kWG := List.mem_filter.mpr ⟨List.mem_of_getElem? (i := 988) (by decide +kernel), rfl⟩
theorem w_989 : Cond.methodLink "ProxyVotesLaw" 63 ⟨"ProxyVotesModel", "vote", "(II)I"⟩ ∈ kWG := List.mem_filter.mpr ⟨List.mem_of_getElem? (i := 989) (by decide +kernel), rfl⟩
theorem w_990 : Cond.instanceMethod ⟨"ProxyVotesModel", "vote", "(II)I"⟩ ∈ kWG := List.mem_filter.mpr ⟨List.mem_of_getElem? (i := 990) (by decide +kernel), rfl⟩
theorem w_991 : Cond.selects "ProxyVotesModel" ⟨"ProxyVotesModel", "vote", "(II)I"⟩ ⟨"ProxyVotesModel", "vote", "(II)I"⟩ ∈ kWG := List.mem_filter.mpr ⟨List.mem_of_getElem? (i := 991) (by decide +kernel), rfl⟩
theorem w_992 : Cond.code ⟨"ProxyVotesModel", "vote", "(II)I"⟩ prog_9_method_39_code 6 (some FieldType.int) ∈ kWG := List.mem_filter.mpr ⟨List.mem_of_getElem? (i := 992) (by decide +kernel), rfl⟩
theorem w_993 : Cond.methodLink "ProxyVotesLaw" 68 ⟨"ProxyVotesModel", "close", "()I"⟩ ∈ kWG := List.mem_filter.mpr ⟨List.mem_of_getElem? (i := 993) (by decide +kernel), rfl⟩
theorem w_994 : Cond.instanceMethod ⟨"ProxyVotesModel", "close", "()I"⟩ ∈ kWG := List.mem_filter.mpr ⟨List.mem_of_getElem? (i := 994) (by decide +kernel), rfl⟩
theorem w_995 : Cond.selects "ProxyVotesModel" ⟨"ProxyVotesModel", "close", "()I"⟩ ⟨"ProxyVotesModel", "close", "()I"⟩ ∈ kWG := List.mem_filter.mpr ⟨List.mem_of_getElem? (i := 995) (by decide +kernel), rfl⟩
theorem w_996 : Cond.code ⟨"ProxyVotesModel", "close", "()I"⟩ prog_9_method_40_code 4 (some FieldType.int) ∈ kWG := List.mem_filter.mpr ⟨List.mem_of_getElem? (i := 996) (by decide +kernel), rfl⟩
theorem w_997 : Cond.methodLink "ProxyVotesModel" 126 ⟨"ProxyVotesModel", "outcome", "(I)I"⟩ ∈ kWG := List.mem_filter.mpr ⟨List.mem_of_getElem? (i := 997) (by decide +kernel), rfl⟩
theorem w_999 : Cond.instanceMethod ⟨"ProxyVotesModel", "outcome", "(I)I"⟩ ∈ kWG := List.mem_filter.mpr ⟨List.mem_of_getElem? (i := 999) (by decide +kernel), rfl⟩
theorem w_1000 : Cond.code ⟨"ProxyVotesModel", "outcome", "(I)I"⟩ prog_9_method_36_code 4 (some FieldType.int) ∈ kWG := List.mem_filter.mpr ⟨List.mem_of_getElem? (i := 1000) (by decide +kernel), rfl⟩
theorem w_1001 : Cond.methodLink "ProxyVotesModel" 117 ⟨"ProxyVotesModel", "count6", "(I)V"⟩ ∈ kWG := List.mem_filter.mpr ⟨List.mem_of_getElem? (i := 1001) (by decide +kernel), rfl⟩
theorem w_1003 : Cond.instanceMethod ⟨"ProxyVotesModel", "count6", "(I)V"⟩ ∈ kWG := List.mem_filter.mpr ⟨List.mem_of_getElem? (i := 1003) (by decide +kernel), rfl⟩
theorem w_1004 : Cond.code ⟨"ProxyVotesModel", "count6", "(I)V"⟩ prog_9_method_32_code 3 none ∈ kWG := List.mem_filter.mpr ⟨List.mem_of_getElem? (i := 1004) (by decide +kernel), rfl⟩
theorem w_1005 : Cond.methodLink "ProxyVotesModel" 108 ⟨"ProxyVotesModel", "wayOf", "(II)I"⟩ ∈ kWG := List.mem_filter.mpr ⟨List.mem_of_getElem? (i := 1005) (by decide +kernel), rfl⟩
theorem w_1007 : Cond.instanceMethod ⟨"ProxyVotesModel", "wayOf", "(II)I"⟩ ∈ kWG := List.mem_filter.mpr ⟨List.mem_of_getElem? (i := 1007) (by decide +kernel), rfl⟩
theorem w_1008 : Cond.code ⟨"ProxyVotesModel", "wayOf", "(II)I"⟩ prog_9_method_31_code 4 (some FieldType.int) ∈ kWG := List.mem_filter.mpr ⟨List.mem_of_getElem? (i := 1008) (by decide +kernel), rfl⟩
theorem w_1009 : Cond.methodLink "ProxyVotesLaw" 72 ⟨"ProxyVotesModel", "cast", "(I)I"⟩ ∈ kWG := List.mem_filter.mpr ⟨List.mem_of_getElem? (i := 1009) (by decide +kernel), rfl⟩
theorem w_1010 : Cond.instanceMethod ⟨"ProxyVotesModel", "cast", "(I)I"⟩ ∈ kWG := List.mem_filter.mpr ⟨List.mem_of_getElem? (i := 1010) (by decide +kernel), rfl⟩
theorem w_1011 : Cond.selects "ProxyVotesModel" ⟨"ProxyVotesModel", "cast", "(I)I"⟩ ⟨"ProxyVotesModel", "cast", "(I)I"⟩ ∈ kWG := List.mem_filter.mpr ⟨List.mem_of_getElem? (i := 1011) (by decide +kernel), rfl⟩
theorem w_1012 : Cond.code ⟨"ProxyVotesModel", "cast", "(I)I"⟩ prog_9_method_42_code 4 (some FieldType.int) ∈ kWG := List.mem_filter.mpr ⟨List.mem_of_getElem? (i := 1012) (by decide +kernel), rfl⟩
theorem w_1013 : Cond.methodLink "ProxyVotesModel" 129 ⟨"ProxyVotesModel", "chairNow", "()I"⟩ ∈ kWG := List.mem_filter.mpr ⟨List.mem_of_getElem? (i := 1013) (by decide +kernel), rfl⟩
theorem w_1015 : Cond.instanceMethod ⟨"ProxyVotesModel", "chairNow", "()I"⟩ ∈ kWG := List.mem_filter.mpr ⟨List.mem_of_getElem? (i := 1015) (by decide +kernel), rfl⟩
theorem w_1016 : Cond.code ⟨"ProxyVotesModel", "chairNow", "()I"⟩ prog_9_method_41_code 3 (some FieldType.int) ∈ kWG := List.mem_filter.mpr ⟨List.mem_of_getElem? (i := 1016) (by decide +kernel), rfl⟩
theorem w_1017 : Cond.methodLink "ProxyVotesLaw" 76 ⟨"ProxyVotesModel", "pass", "(I)I"⟩ ∈ kWG := List.mem_filter.mpr ⟨List.mem_of_getElem? (i := 1017) (by decide +kernel), rfl⟩
theorem w_1018 : Cond.instanceMethod ⟨"ProxyVotesModel", "pass", "(I)I"⟩ ∈ kWG := List.mem_filter.mpr ⟨List.mem_of_getElem? (i := 1018) (by decide +kernel), rfl⟩
theorem w_1019 : Cond.selects "ProxyVotesModel" ⟨"ProxyVotesModel", "pass", "(I)I"⟩ ⟨"ProxyVotesModel", "pass", "(I)I"⟩ ∈ kWG := List.mem_filter.mpr ⟨List.mem_of_getElem? (i := 1019) (by decide +kernel), rfl⟩
theorem w_1020 : Cond.code ⟨"ProxyVotesModel", "pass", "(I)I"⟩ prog_9_method_44_code 3 (some FieldType.int) ∈ kWG := List.mem_filter.mpr ⟨List.mem_of_getElem? (i := 1020) (by decide +kernel), rfl⟩
theorem w_1021 : Cond.methodLink "ProxyVotesModel" 132 ⟨"ProxyVotesModel", "nextMinute", "()V"⟩ ∈ kWG := List.mem_filter.mpr ⟨List.mem_of_getElem? (i := 1021) (by decide +kernel), rfl⟩
theorem w_1023 : Cond.instanceMethod ⟨"ProxyVotesModel", "nextMinute", "()V"⟩ ∈ kWG := List.mem_filter.mpr ⟨List.mem_of_getElem? (i := 1023) (by decide +kernel), rfl⟩
theorem w_1024 : Cond.code ⟨"ProxyVotesModel", "nextMinute", "()V"⟩ prog_9_method_43_code 5 none ∈ kWG := List.mem_filter.mpr ⟨List.mem_of_getElem? (i := 1024) (by decide +kernel), rfl⟩
theorem w_1025 : Cond.methodLink "ProxyVotesLaw" 80 ⟨"ProxyVotesModel", "ofMember", "(II)I"⟩ ∈ kWG := List.mem_filter.mpr ⟨List.mem_of_getElem? (i := 1025) (by decide +kernel), rfl⟩
theorem w_1026 : Cond.instanceMethod ⟨"ProxyVotesModel", "ofMember", "(II)I"⟩ ∈ kWG := List.mem_filter.mpr ⟨List.mem_of_getElem? (i := 1026) (by decide +kernel), rfl⟩
theorem w_1027 : Cond.selects "ProxyVotesModel" ⟨"ProxyVotesModel", "ofMember", "(II)I"⟩ ⟨"ProxyVotesModel", "ofMember", "(II)I"⟩ ∈ kWG := List.mem_filter.mpr ⟨List.mem_of_getElem? (i := 1027) (by decide +kernel), rfl⟩
theorem w_1028 : Cond.code ⟨"ProxyVotesModel", "ofMember", "(II)I"⟩ prog_9_method_46_code 3 (some FieldType.int) ∈ kWG := List.mem_filter.mpr ⟨List.mem_of_getElem? (i := 1028) (by decide +kernel), rfl⟩
theorem w_1029 : Cond.methodLink "ProxyVotesModel" 135 ⟨"ProxyVotesModel", "votesOf", "(I)I"⟩ ∈ kWG := List.mem_filter.mpr ⟨List.mem_of_getElem? (i := 1029) (by decide +kernel), rfl⟩
theorem w_1031 : Cond.instanceMethod ⟨"ProxyVotesModel", "votesOf", "(I)I"⟩ ∈ kWG := List.mem_filter.mpr ⟨List.mem_of_getElem? (i := 1031) (by decide +kernel), rfl⟩
theorem w_1032 : Cond.code ⟨"ProxyVotesModel", "votesOf", "(I)I"⟩ prog_9_method_45_code 4 (some FieldType.int) ∈ kWG := List.mem_filter.mpr ⟨List.mem_of_getElem? (i := 1032) (by decide +kernel), rfl⟩
theorem w_1033 : Cond.methodLink "ProxyVotesLaw" 84 ⟨"ProxyVotesModel", "ofItem", "(II)I"⟩ ∈ kWG := List.mem_filter.mpr ⟨List.mem_of_getElem? (i := 1033) (by decide +kernel), rfl⟩
theorem w_1034 : Cond.instanceMethod ⟨"ProxyVotesModel", "ofItem", "(II)I"⟩ ∈ kWG := List.mem_filter.mpr ⟨List.mem_of_getElem? (i := 1034) (by decide +kernel), rfl⟩
theorem w_1035 : Cond.selects "ProxyVotesModel" ⟨"ProxyVotesModel", "ofItem", "(II)I"⟩ ⟨"ProxyVotesModel", "ofItem", "(II)I"⟩ ∈ kWG := List.mem_filter.mpr ⟨List.mem_of_getElem? (i := 1035) (by decide +kernel), rfl⟩
theorem w_1036 : Cond.code ⟨"ProxyVotesModel", "ofItem", "(II)I"⟩ prog_9_method_47_code 3 (some FieldType.int) ∈ kWG := List.mem_filter.mpr ⟨List.mem_of_getElem? (i := 1036) (by decide +kernel), rfl⟩
theorem w_1037 : Cond.methodLink "ProxyVotesLaw" 88 ⟨"ProxyVotesModel", "at", "(III)I"⟩ ∈ kWG := List.mem_filter.mpr ⟨List.mem_of_getElem? (i := 1037) (by decide +kernel), rfl⟩
theorem w_1038 : Cond.instanceMethod ⟨"ProxyVotesModel", "at", "(III)I"⟩ ∈ kWG := List.mem_filter.mpr ⟨List.mem_of_getElem? (i := 1038) (by decide +kernel), rfl⟩
theorem w_1039 : Cond.selects "ProxyVotesModel" ⟨"ProxyVotesModel", "at", "(III)I"⟩ ⟨"ProxyVotesModel", "at", "(III)I"⟩ ∈ kWG := List.mem_filter.mpr ⟨List.mem_of_getElem? (i := 1039) (by decide +kernel), rfl⟩
theorem w_1040 : Cond.code ⟨"ProxyVotesModel", "at", "(III)I"⟩ prog_9_method_48_code 4 (some FieldType.int) ∈ kWG := List.mem_filter.mpr ⟨List.mem_of_getElem? (i := 1040) (by decide +kernel), rfl⟩
theorem w_1041 : Cond.methodLink "ProxyVotesLaw" 92 ⟨"ProxyVotesModel", "count", "(I)I"⟩ ∈ kWG := List.mem_filter.mpr ⟨List.mem_of_getElem? (i := 1041) (by decide +kernel), rfl⟩
theorem w_1042 : Cond.instanceMethod ⟨"ProxyVotesModel", "count", "(I)I"⟩ ∈ kWG := List.mem_filter.mpr ⟨List.mem_of_getElem? (i := 1042) (by decide +kernel), rfl⟩
theorem w_1043 : Cond.selects "ProxyVotesModel" ⟨"ProxyVotesModel", "count", "(I)I"⟩ ⟨"ProxyVotesModel", "count", "(I)I"⟩ ∈ kWG := List.mem_filter.mpr ⟨List.mem_of_getElem? (i := 1043) (by decide +kernel), rfl⟩
theorem w_1044 : Cond.code ⟨"ProxyVotesModel", "count", "(I)I"⟩ prog_9_method_50_code 2 (some FieldType.int) ∈ kWG := List.mem_filter.mpr ⟨List.mem_of_getElem? (i := 1044) (by decide +kernel), rfl⟩
theorem w_1045 : Cond.methodLink "ProxyVotesModel" 138 ⟨"ProxyVotesModel", "itemsIn", "(I)I"⟩ ∈ kWG := List.mem_filter.mpr ⟨List.mem_of_getElem? (i := 1045) (by decide +kernel), rfl⟩
theorem w_1047 : Cond.instanceMethod ⟨"ProxyVotesModel", "itemsIn", "(I)I"⟩ ∈ kWG := List.mem_filter.mpr ⟨List.mem_of_getElem? (i := 1047) (by decide +kernel), rfl⟩
theorem w_1048 : Cond.code ⟨"ProxyVotesModel", "itemsIn", "(I)I"⟩ prog_9_method_49_code 4 (some FieldType.int) ∈ kWG := List.mem_filter.mpr ⟨List.mem_of_getElem? (i := 1048) (by decide +kernel), rfl⟩
theorem w_1049 : Cond.methodLink "ProxyVotesLaw" 96 ⟨"ProxyVotesModel", "wouldBe", "(I)I"⟩ ∈ kWG := List.mem_filter.mpr ⟨List.mem_of_getElem? (i := 1049) (by decide +kernel), rfl⟩
theorem w_1050 : Cond.instanceMethod ⟨"ProxyVotesModel", "wouldBe", "(I)I"⟩ ∈ kWG := List.mem_filter.mpr ⟨List.mem_of_getElem? (i := 1050) (by decide +kernel), rfl⟩
theorem w_1051 : Cond.selects "ProxyVotesModel" ⟨"ProxyVotesModel", "wouldBe", "(I)I"⟩ ⟨"ProxyVotesModel", "wouldBe", "(I)I"⟩ ∈ kWG := List.mem_filter.mpr ⟨List.mem_of_getElem? (i := 1051) (by decide +kernel), rfl⟩
theorem w_1052 : Cond.code ⟨"ProxyVotesModel", "wouldBe", "(I)I"⟩ prog_9_method_51_code 2 (some FieldType.int) ∈ kWG := List.mem_filter.mpr ⟨List.mem_of_getElem? (i := 1052) (by decide +kernel), rfl⟩
theorem w_1053 : Cond.methodLink "ProxyVotesLaw" 100 ⟨"ProxyVotesModel", "decisive", "(I)I"⟩ ∈ kWG := List.mem_filter.mpr ⟨List.mem_of_getElem? (i := 1053) (by decide +kernel), rfl⟩
theorem w_1054 : Cond.instanceMethod ⟨"ProxyVotesModel", "decisive", "(I)I"⟩ ∈ kWG := List.mem_filter.mpr ⟨List.mem_of_getElem? (i := 1054) (by decide +kernel), rfl⟩
theorem w_1055 : Cond.selects "ProxyVotesModel" ⟨"ProxyVotesModel", "decisive", "(I)I"⟩ ⟨"ProxyVotesModel", "decisive", "(I)I"⟩ ∈ kWG := List.mem_filter.mpr ⟨List.mem_of_getElem? (i := 1055) (by decide +kernel), rfl⟩
theorem w_1056 : Cond.code ⟨"ProxyVotesModel", "decisive", "(I)I"⟩ prog_9_method_53_code 8 (some FieldType.int) ∈ kWG := List.mem_filter.mpr ⟨List.mem_of_getElem? (i := 1056) (by decide +kernel), rfl⟩
theorem w_1057 : Cond.methodLink "ProxyVotesModel" 144 ⟨"ProxyVotesModel", "canVote", "(II)Z"⟩ ∈ kWG := List.mem_filter.mpr ⟨List.mem_of_getElem? (i := 1057) (by decide +kernel), rfl⟩
theorem w_1059 : Cond.instanceMethod ⟨"ProxyVotesModel", "canVote", "(II)Z"⟩ ∈ kWG := List.mem_filter.mpr ⟨List.mem_of_getElem? (i := 1059) (by decide +kernel), rfl⟩
theorem w_1060 : Cond.code ⟨"ProxyVotesModel", "canVote", "(II)Z"⟩ prog_9_method_52_code 3 (some FieldType.boolean) ∈ kWG := List.mem_filter.mpr ⟨List.mem_of_getElem? (i := 1060) (by decide +kernel), rfl⟩
theorem w_1061 : Cond.methodLink "ProxyVotesLaw" 104 ⟨"ProxyVotesModel", "needed", "(II)I"⟩ ∈ kWG := List.mem_filter.mpr ⟨List.mem_of_getElem? (i := 1061) (by decide +kernel), rfl⟩
theorem w_1062 : Cond.instanceMethod ⟨"ProxyVotesModel", "needed", "(II)I"⟩ ∈ kWG := List.mem_filter.mpr ⟨List.mem_of_getElem? (i := 1062) (by decide +kernel), rfl⟩
theorem w_1063 : Cond.selects "ProxyVotesModel" ⟨"ProxyVotesModel", "needed", "(II)I"⟩ ⟨"ProxyVotesModel", "needed", "(II)I"⟩ ∈ kWG := List.mem_filter.mpr ⟨List.mem_of_getElem? (i := 1063) (by decide +kernel), rfl⟩
theorem w_1064 : Cond.code ⟨"ProxyVotesModel", "needed", "(II)I"⟩ prog_9_method_55_code 7 (some FieldType.int) ∈ kWG := List.mem_filter.mpr ⟨List.mem_of_getElem? (i := 1064) (by decide +kernel), rfl⟩
theorem w_1065 : Cond.methodLink "ProxyVotesModel" 147 ⟨"ProxyVotesModel", "isCarriedBy", "(II)Z"⟩ ∈ kWG := List.mem_filter.mpr ⟨List.mem_of_getElem? (i := 1065) (by decide +kernel), rfl⟩
theorem w_1067 : Cond.instanceMethod ⟨"ProxyVotesModel", "isCarriedBy", "(II)Z"⟩ ∈ kWG := List.mem_filter.mpr ⟨List.mem_of_getElem? (i := 1067) (by decide +kernel), rfl⟩
theorem w_1068 : Cond.code ⟨"ProxyVotesModel", "isCarriedBy", "(II)Z"⟩ prog_9_method_54_code 5 (some FieldType.boolean) ∈ kWG := List.mem_filter.mpr ⟨List.mem_of_getElem? (i := 1068) (by decide +kernel), rfl⟩
theorem w_1069 : Cond.methodLink "ProxyVotesLaw" 108 ⟨"ProxyVotesModel", "power", "(I)I"⟩ ∈ kWG := List.mem_filter.mpr ⟨List.mem_of_getElem? (i := 1069) (by decide +kernel), rfl⟩
theorem w_1070 : Cond.instanceMethod ⟨"ProxyVotesModel", "power", "(I)I"⟩ ∈ kWG := List.mem_filter.mpr ⟨List.mem_of_getElem? (i := 1070) (by decide +kernel), rfl⟩
theorem w_1071 : Cond.selects "ProxyVotesModel" ⟨"ProxyVotesModel", "power", "(I)I"⟩ ⟨"ProxyVotesModel", "power", "(I)I"⟩ ∈ kWG := List.mem_filter.mpr ⟨List.mem_of_getElem? (i := 1071) (by decide +kernel), rfl⟩
theorem w_1072 : Cond.code ⟨"ProxyVotesModel", "power", "(I)I"⟩ prog_9_method_56_code 7 (some FieldType.int) ∈ kWG := List.mem_filter.mpr ⟨List.mem_of_getElem? (i := 1072) (by decide +kernel), rfl⟩
theorem w_1073 : Cond.methodLink "ProxyVotesLaw" 112 ⟨"ProxyVotesModel", "quorumAt", "(I)I"⟩ ∈ kWG := List.mem_filter.mpr ⟨List.mem_of_getElem? (i := 1073) (by decide +kernel), rfl⟩
theorem w_1074 : Cond.instanceMethod ⟨"ProxyVotesModel", "quorumAt", "(I)I"⟩ ∈ kWG := List.mem_filter.mpr ⟨List.mem_of_getElem? (i := 1074) (by decide +kernel), rfl⟩
theorem w_1075 : Cond.selects "ProxyVotesModel" ⟨"ProxyVotesModel", "quorumAt", "(I)I"⟩ ⟨"ProxyVotesModel", "quorumAt", "(I)I"⟩ ∈ kWG := List.mem_filter.mpr ⟨List.mem_of_getElem? (i := 1075) (by decide +kernel), rfl⟩
theorem w_1076 : Cond.code ⟨"ProxyVotesModel", "quorumAt", "(I)I"⟩ prog_9_method_57_code 4 (some FieldType.int) ∈ kWG := List.mem_filter.mpr ⟨List.mem_of_getElem? (i := 1076) (by decide +kernel), rfl⟩
theorem w_1077 : Cond.methodLink "ProxyVotesModel" 150 ⟨"ProxyVotesModel", "keep", "()V"⟩ ∈ kWG := List.mem_filter.mpr ⟨List.mem_of_getElem? (i := 1077) (by decide +kernel), rfl⟩
theorem w_1079 : Cond.instanceMethod ⟨"ProxyVotesModel", "keep", "()V"⟩ ∈ kWG := List.mem_filter.mpr ⟨List.mem_of_getElem? (i := 1079) (by decide +kernel), rfl⟩
theorem w_1080 : Cond.code ⟨"ProxyVotesModel", "keep", "()V"⟩ prog_9_method_6_code 2 none ∈ kWG := List.mem_filter.mpr ⟨List.mem_of_getElem? (i := 1080) (by decide +kernel), rfl⟩
theorem w_1081 : Cond.methodLink "ProxyVotesModel" 153 ⟨"ProxyVotesModel", "comeBack", "()V"⟩ ∈ kWG := List.mem_filter.mpr ⟨List.mem_of_getElem? (i := 1081) (by decide +kernel), rfl⟩
theorem w_1083 : Cond.instanceMethod ⟨"ProxyVotesModel", "comeBack", "()V"⟩ ∈ kWG := List.mem_filter.mpr ⟨List.mem_of_getElem? (i := 1083) (by decide +kernel), rfl⟩
theorem w_1084 : Cond.code ⟨"ProxyVotesModel", "comeBack", "()V"⟩ prog_9_method_7_code 2 none ∈ kWG := List.mem_filter.mpr ⟨List.mem_of_getElem? (i := 1084) (by decide +kernel), rfl⟩
theorem w_1085 : Cond.methodLink "ProxyVotesLaw" 116 ⟨"ProxyVotesModel", "bestHolder", "(II)I"⟩ ∈ kWG := List.mem_filter.mpr ⟨List.mem_of_getElem? (i := 1085) (by decide +kernel), rfl⟩
theorem w_1086 : Cond.instanceMethod ⟨"ProxyVotesModel", "bestHolder", "(II)I"⟩ ∈ kWG := List.mem_filter.mpr ⟨List.mem_of_getElem? (i := 1086) (by decide +kernel), rfl⟩
theorem w_1087 : Cond.selects "ProxyVotesModel" ⟨"ProxyVotesModel", "bestHolder", "(II)I"⟩ ⟨"ProxyVotesModel", "bestHolder", "(II)I"⟩ ∈ kWG := List.mem_filter.mpr ⟨List.mem_of_getElem? (i := 1087) (by decide +kernel), rfl⟩
theorem w_1088 : Cond.code ⟨"ProxyVotesModel", "bestHolder", "(II)I"⟩ prog_9_method_58_code 9 (some FieldType.int) ∈ kWG := List.mem_filter.mpr ⟨List.mem_of_getElem? (i := 1088) (by decide +kernel), rfl⟩
theorem w_1089 : Cond.methodLink "ProxyVotesLaw" 123 ⟨"ProxyVotesModel", "put", "(J)I"⟩ ∈ kWG := List.mem_filter.mpr ⟨List.mem_of_getElem? (i := 1089) (by decide +kernel), rfl⟩
theorem w_1090 : Cond.instanceMethod ⟨"ProxyVotesModel", "put", "(J)I"⟩ ∈ kWG := List.mem_filter.mpr ⟨List.mem_of_getElem? (i := 1090) (by decide +kernel), rfl⟩
theorem w_1091 : Cond.selects "ProxyVotesModel" ⟨"ProxyVotesModel", "put", "(J)I"⟩ ⟨"ProxyVotesModel", "put", "(J)I"⟩ ∈ kWG := List.mem_filter.mpr ⟨List.mem_of_getElem? (i := 1091) (by decide +kernel), rfl⟩
theorem w_1092 : Cond.code ⟨"ProxyVotesModel", "put", "(J)I"⟩ prog_9_method_64_code 7 (some FieldType.int) ∈ kWG := List.mem_filter.mpr ⟨List.mem_of_getElem? (i := 1092) (by decide +kernel), rfl⟩
theorem w_1093 : Cond.constantLong "ProxyVotesModel" 177 (255) ∈ kWG := List.mem_filter.mpr ⟨List.mem_of_getElem? (i := 1093) (by decide +kernel), rfl⟩
theorem w_1094 : Cond.methodLink "ProxyVotesLaw" 127 ⟨"ProxyVotesModel", "wipe", "()I"⟩ ∈ kWG := List.mem_filter.mpr ⟨List.mem_of_getElem? (i := 1094) (by decide +kernel), rfl⟩
theorem w_1095 : Cond.instanceMethod ⟨"ProxyVotesModel", "wipe", "()I"⟩ ∈ kWG := List.mem_filter.mpr ⟨List.mem_of_getElem? (i := 1095) (by decide +kernel), rfl⟩
theorem w_1096 : Cond.selects "ProxyVotesModel" ⟨"ProxyVotesModel", "wipe", "()I"⟩ ⟨"ProxyVotesModel", "wipe", "()I"⟩ ∈ kWG := List.mem_filter.mpr ⟨List.mem_of_getElem? (i := 1096) (by decide +kernel), rfl⟩
theorem w_1097 : Cond.code ⟨"ProxyVotesModel", "wipe", "()I"⟩ prog_9_method_65_code 2 (some FieldType.int) ∈ kWG := List.mem_filter.mpr ⟨List.mem_of_getElem? (i := 1097) (by decide +kernel), rfl⟩
theorem w_1098 : Cond.methodLink "ProxyVotesLaw" 131 ⟨"ProxyVotesModel", "fault", "()I"⟩ ∈ kWG := List.mem_filter.mpr ⟨List.mem_of_getElem? (i := 1098) (by decide +kernel), rfl⟩
theorem w_1099 : Cond.instanceMethod ⟨"ProxyVotesModel", "fault", "()I"⟩ ∈ kWG := List.mem_filter.mpr ⟨List.mem_of_getElem? (i := 1099) (by decide +kernel), rfl⟩
theorem w_1100 : Cond.selects "ProxyVotesModel" ⟨"ProxyVotesModel", "fault", "()I"⟩ ⟨"ProxyVotesModel", "fault", "()I"⟩ ∈ kWG := List.mem_filter.mpr ⟨List.mem_of_getElem? (i := 1100) (by decide +kernel), rfl⟩
theorem w_1101 : Cond.code ⟨"ProxyVotesModel", "fault", "()I"⟩ prog_9_method_66_code 1 (some FieldType.int) ∈ kWG := List.mem_filter.mpr ⟨List.mem_of_getElem? (i := 1101) (by decide +kernel), rfl⟩
theorem w_1102 : Cond.methodLink "ProxyVotesModel" 179 ⟨"ProxyVotesModel", "faultOf", "()I"⟩ ∈ kWG := List.mem_filter.mpr ⟨List.mem_of_getElem? (i := 1102) (by decide +kernel), rfl⟩
theorem w_1104 : Cond.instanceMethod ⟨"ProxyVotesModel", "faultOf", "()I"⟩ ∈ kWG := List.mem_filter.mpr ⟨List.mem_of_getElem? (i := 1104) (by decide +kernel), rfl⟩
theorem w_1105 : Cond.code ⟨"ProxyVotesModel", "faultOf", "()I"⟩ prog_9_method_63_code 1 (some FieldType.int) ∈ kWG := List.mem_filter.mpr ⟨List.mem_of_getElem? (i := 1105) (by decide +kernel), rfl⟩
theorem w_1106 : Cond.methodLink "ProxyVotesModel" 174 ⟨"ProxyVotesModel", "readOne", "()V"⟩ ∈ kWG := List.mem_filter.mpr ⟨List.mem_of_getElem? (i := 1106) (by decide +kernel), rfl⟩
theorem w_1108 : Cond.instanceMethod ⟨"ProxyVotesModel", "readOne", "()V"⟩ ∈ kWG := List.mem_filter.mpr ⟨List.mem_of_getElem? (i := 1108) (by decide +kernel), rfl⟩
theorem w_1109 : Cond.code ⟨"ProxyVotesModel", "readOne", "()V"⟩ prog_9_method_62_code 3 none ∈ kWG := List.mem_filter.mpr ⟨List.mem_of_getElem? (i := 1109) (by decide +kernel), rfl⟩
theorem w_1110 : Cond.methodLink "ProxyVotesModel" 159 ⟨"ProxyVotesModel", "sign", "()I"⟩ ∈ kWG := List.mem_filter.mpr ⟨List.mem_of_getElem? (i := 1110) (by decide +kernel), rfl⟩
theorem w_1112 : Cond.instanceMethod ⟨"ProxyVotesModel", "sign", "()I"⟩ ∈ kWG := List.mem_filter.mpr ⟨List.mem_of_getElem? (i := 1112) (by decide +kernel), rfl⟩
theorem w_1113 : Cond.code ⟨"ProxyVotesModel", "sign", "()I"⟩ prog_9_method_59_code 1 (some FieldType.int) ∈ kWG := List.mem_filter.mpr ⟨List.mem_of_getElem? (i := 1113) (by decide +kernel), rfl⟩
theorem w_1114 : Cond.methodLink "ProxyVotesModel" 171 ⟨"ProxyVotesModel", "number", "()I"⟩ ∈ kWG := List.mem_filter.mpr ⟨List.mem_of_getElem? (i := 1114) (by decide +kernel), rfl⟩
theorem w_1116 : Cond.instanceMethod ⟨"ProxyVotesModel", "number", "()I"⟩ ∈ kWG := List.mem_filter.mpr ⟨List.mem_of_getElem? (i := 1116) (by decide +kernel), rfl⟩
theorem w_1117 : Cond.code ⟨"ProxyVotesModel", "number", "()I"⟩ prog_9_method_61_code 2 (some FieldType.int) ∈ kWG := List.mem_filter.mpr ⟨List.mem_of_getElem? (i := 1117) (by decide +kernel), rfl⟩
theorem w_1118 : Cond.methodLink "ProxyVotesModel" 165 ⟨"ProxyVotesModel", "one", "(III)I"⟩ ∈ kWG := List.mem_filter.mpr ⟨List.mem_of_getElem? (i := 1118) (by decide +kernel), rfl⟩
theorem w_1120 : Cond.instanceMethod ⟨"ProxyVotesModel", "one", "(III)I"⟩ ∈ kWG := List.mem_filter.mpr ⟨List.mem_of_getElem? (i := 1120) (by decide +kernel), rfl⟩
theorem w_1121 : Cond.code ⟨"ProxyVotesModel", "one", "(III)I"⟩ prog_9_method_60_code 5 (some FieldType.int) ∈ kWG := List.mem_filter.mpr ⟨List.mem_of_getElem? (i := 1121) (by decide +kernel), rfl⟩
theorem w_1122 : Cond.methodLink "ProxyVotesLaw" 135 ⟨"ProxyVotesModel", "carryOut", "()I"⟩ ∈ kWG := List.mem_filter.mpr ⟨List.mem_of_getElem? (i := 1122) (by decide +kernel), rfl⟩
theorem w_1123 : Cond.instanceMethod ⟨"ProxyVotesModel", "carryOut", "()I"⟩ ∈ kWG := List.mem_filter.mpr ⟨List.mem_of_getElem? (i := 1123) (by decide +kernel), rfl⟩
theorem w_1124 : Cond.selects "ProxyVotesModel" ⟨"ProxyVotesModel", "carryOut", "()I"⟩ ⟨"ProxyVotesModel", "carryOut", "()I"⟩ ∈ kWG := List.mem_filter.mpr ⟨List.mem_of_getElem? (i := 1124) (by decide +kernel), rfl⟩
theorem w_1125 : Cond.code ⟨"ProxyVotesModel", "carryOut", "()I"⟩ prog_9_method_68_code 2 (some FieldType.int) ∈ kWG := List.mem_filter.mpr ⟨List.mem_of_getElem? (i := 1125) (by decide +kernel), rfl⟩
theorem w_1126 : Cond.methodLink "ProxyVotesModel" 203 ⟨"ProxyVotesModel", "carry", "(I)Z"⟩ ∈ kWG := List.mem_filter.mpr ⟨List.mem_of_getElem? (i := 1126) (by decide +kernel), rfl⟩
theorem w_1128 : Cond.instanceMethod ⟨"ProxyVotesModel", "carry", "(I)Z"⟩ ∈ kWG := List.mem_filter.mpr ⟨List.mem_of_getElem? (i := 1128) (by decide +kernel), rfl⟩
theorem w_1129 : Cond.code ⟨"ProxyVotesModel", "carry", "(I)Z"⟩ prog_9_method_67_code 4 (some FieldType.boolean) ∈ kWG := List.mem_filter.mpr ⟨List.mem_of_getElem? (i := 1129) (by decide +kernel), rfl⟩
theorem w_1130 : Cond.methodLink "ProxyVotesModel" 182 ⟨"ProxyVotesModel", "come", "(I)I"⟩ ∈ kWG := List.mem_filter.mpr ⟨List.mem_of_getElem? (i := 1130) (by decide +kernel), rfl⟩
theorem w_1131 : Cond.methodLink "ProxyVotesModel" 185 ⟨"ProxyVotesModel", "go", "(I)I"⟩ ∈ kWG := List.mem_filter.mpr ⟨List.mem_of_getElem? (i := 1131) (by decide +kernel), rfl⟩
theorem w_1132 : Cond.methodLink "ProxyVotesModel" 188 ⟨"ProxyVotesModel", "open", "(I)I"⟩ ∈ kWG := List.mem_filter.mpr ⟨List.mem_of_getElem? (i := 1132) (by decide +kernel), rfl⟩
theorem w_1133 : Cond.methodLink "ProxyVotesModel" 191 ⟨"ProxyVotesModel", "vote", "(II)I"⟩ ∈ kWG := List.mem_filter.mpr ⟨List.mem_of_getElem? (i := 1133) (by decide +kernel), rfl⟩
theorem w_1134 : Cond.methodLink "ProxyVotesModel" 194 ⟨"ProxyVotesModel", "close", "()I"⟩ ∈ kWG := List.mem_filter.mpr ⟨List.mem_of_getElem? (i := 1134) (by decide +kernel), rfl⟩
theorem w_1135 : Cond.methodLink "ProxyVotesModel" 197 ⟨"ProxyVotesModel", "cast", "(I)I"⟩ ∈ kWG := List.mem_filter.mpr ⟨List.mem_of_getElem? (i := 1135) (by decide +kernel), rfl⟩
theorem w_1136 : Cond.methodLink "ProxyVotesModel" 200 ⟨"ProxyVotesModel", "pass", "(I)I"⟩ ∈ kWG := List.mem_filter.mpr ⟨List.mem_of_getElem? (i := 1136) (by decide +kernel), rfl⟩
theorem w_1137 : Cond.methodLink "ProxyVotesLaw" 139 ⟨"ProxyVotesModel", "undo", "()I"⟩ ∈ kWG := List.mem_filter.mpr ⟨List.mem_of_getElem? (i := 1137) (by decide +kernel), rfl⟩
theorem w_1138 : Cond.instanceMethod ⟨"ProxyVotesModel", "undo", "()I"⟩ ∈ kWG := List.mem_filter.mpr ⟨List.mem_of_getElem? (i := 1138) (by decide +kernel), rfl⟩
theorem w_1139 : Cond.selects "ProxyVotesModel" ⟨"ProxyVotesModel", "undo", "()I"⟩ ⟨"ProxyVotesModel", "undo", "()I"⟩ ∈ kWG := List.mem_filter.mpr ⟨List.mem_of_getElem? (i := 1139) (by decide +kernel), rfl⟩
theorem w_1140 : Cond.code ⟨"ProxyVotesModel", "undo", "()I"⟩ prog_9_method_69_code 2 (some FieldType.int) ∈ kWG := List.mem_filter.mpr ⟨List.mem_of_getElem? (i := 1140) (by decide +kernel), rfl⟩
theorem w_1141 : Cond.methodLink "ProxyVotesLaw" 143 ⟨"ProxyVotesModel", "save", "(I)I"⟩ ∈ kWG := List.mem_filter.mpr ⟨List.mem_of_getElem? (i := 1141) (by decide +kernel), rfl⟩
theorem w_1142 : Cond.instanceMethod ⟨"ProxyVotesModel", "save", "(I)I"⟩ ∈ kWG := List.mem_filter.mpr ⟨List.mem_of_getElem? (i := 1142) (by decide +kernel), rfl⟩
theorem w_1143 : Cond.selects "ProxyVotesModel" ⟨"ProxyVotesModel", "save", "(I)I"⟩ ⟨"ProxyVotesModel", "save", "(I)I"⟩ ∈ kWG := List.mem_filter.mpr ⟨List.mem_of_getElem? (i := 1143) (by decide +kernel), rfl⟩
theorem w_1144 : Cond.code ⟨"ProxyVotesModel", "save", "(I)I"⟩ prog_9_method_70_code 3 (some FieldType.int) ∈ kWG := List.mem_filter.mpr ⟨List.mem_of_getElem? (i := 1144) (by decide +kernel), rfl⟩
theorem w_1145 : Cond.methodLink "ProxyVotesLaw" 147 ⟨"ProxyVotesModel", "restore", "(I)I"⟩ ∈ kWG := List.mem_filter.mpr ⟨List.mem_of_getElem? (i := 1145) (by decide +kernel), rfl⟩
theorem w_1146 : Cond.instanceMethod ⟨"ProxyVotesModel", "restore", "(I)I"⟩ ∈ kWG := List.mem_filter.mpr ⟨List.mem_of_getElem? (i := 1146) (by decide +kernel), rfl⟩
theorem w_1147 : Cond.selects "ProxyVotesModel" ⟨"ProxyVotesModel", "restore", "(I)I"⟩ ⟨"ProxyVotesModel", "restore", "(I)I"⟩ ∈ kWG := List.mem_filter.mpr ⟨List.mem_of_getElem? (i := 1147) (by decide +kernel), rfl⟩
theorem w_1148 : Cond.code ⟨"ProxyVotesModel", "restore", "(I)I"⟩ prog_9_method_71_code 3 (some FieldType.int) ∈ kWG := List.mem_filter.mpr ⟨List.mem_of_getElem? (i := 1148) (by decide +kernel), rfl⟩
theorem w_1149 : Cond.constantLong "ProxyVotesLaw" 117 (4294967295) ∈ kWG := List.mem_filter.mpr ⟨List.mem_of_getElem? (i := 1149) (by decide +kernel), rfl⟩
theorem wn_123 : Cond.methodLinkNest "ProxyVotes" 9 ⟨"ProxyVotes$Committee", "<init>", "()V"⟩ "ProxyVotes" ∈ kNest := List.mem_filter.mpr ⟨List.mem_of_getElem? (i := 123) (by decide +kernel), rfl⟩
theorem wn_131 : Cond.methodLinkNest "ProxyVotes$Committee" 36 ⟨"ProxyVotes$Movements", "<init>", "()V"⟩ "ProxyVotes" ∈ kNest := List.mem_filter.mpr ⟨List.mem_of_getElem? (i := 131) (by decide +kernel), rfl⟩
theorem wn_136 : Cond.fieldLinkNest "ProxyVotes" 231 "ProxyVotes$Movements" "number" "I" "ProxyVotes" ∈ kNest := List.mem_filter.mpr ⟨List.mem_of_getElem? (i := 136) (by decide +kernel), rfl⟩
theorem wn_137 : Cond.fieldLinkNest "ProxyVotes$Committee" 114 "ProxyVotes$Movements" "number" "I" "ProxyVotes" ∈ kNest := List.mem_filter.mpr ⟨List.mem_of_getElem? (i := 137) (by decide +kernel), rfl⟩
theorem wn_139 : Cond.fieldLinkNest "ProxyVotes$Committee" 177 "ProxyVotes$Movements" "minutes" "[I" "ProxyVotes" ∈ kNest := List.mem_filter.mpr ⟨List.mem_of_getElem? (i := 139) (by decide +kernel), rfl⟩
theorem wn_141 : Cond.fieldLinkNest "ProxyVotes$Committee" 180 "ProxyVotes$Movements" "movers" "[I" "ProxyVotes" ∈ kNest := List.mem_filter.mpr ⟨List.mem_of_getElem? (i := 141) (by decide +kernel), rfl⟩
theorem wn_143 : Cond.fieldLinkNest "ProxyVotes$Committee" 183 "ProxyVotes$Movements" "comings" "[I" "ProxyVotes" ∈ kNest := List.mem_filter.mpr ⟨List.mem_of_getElem? (i := 143) (by decide +kernel), rfl⟩
theorem wn_154 : Cond.fieldLinkNest "ProxyVotes$Committee" 41 "ProxyVotes" "FIRST_VALUES" "[I" "ProxyVotes" ∈ kNest := List.mem_filter.mpr ⟨List.mem_of_getElem? (i := 154) (by decide +kernel), rfl⟩
theorem wn_160 : Cond.methodLinkNest "ProxyVotes$Committee" 50 ⟨"ProxyVotes$Item", "<init>", "()V"⟩ "ProxyVotes" ∈ kNest := List.mem_filter.mpr ⟨List.mem_of_getElem? (i := 160) (by decide +kernel), rfl⟩
theorem wn_165 : Cond.fieldLinkNest "ProxyVotes$Hearing" 69 "ProxyVotes$Item" "kind" "I" "ProxyVotes" ∈ kNest := List.mem_filter.mpr ⟨List.mem_of_getElem? (i := 165) (by decide +kernel), rfl⟩
theorem wn_166 : Cond.fieldLinkNest "ProxyVotes" 141 "ProxyVotes$Item" "kind" "I" "ProxyVotes" ∈ kNest := List.mem_filter.mpr ⟨List.mem_of_getElem? (i := 166) (by decide +kernel), rfl⟩
theorem wn_168 : Cond.fieldLinkNest "ProxyVotes$Committee" 70 "ProxyVotes$Item" "touched" "I" "ProxyVotes" ∈ kNest := List.mem_filter.mpr ⟨List.mem_of_getElem? (i := 168) (by decide +kernel), rfl⟩
theorem wn_169 : Cond.fieldLinkNest "ProxyVotes" 147 "ProxyVotes$Item" "touched" "I" "ProxyVotes" ∈ kNest := List.mem_filter.mpr ⟨List.mem_of_getElem? (i := 169) (by decide +kernel), rfl⟩
theorem wn_171 : Cond.fieldLinkNest "ProxyVotes$Committee" 89 "ProxyVotes$Item" "state" "I" "ProxyVotes" ∈ kNest := List.mem_filter.mpr ⟨List.mem_of_getElem? (i := 171) (by decide +kernel), rfl⟩
theorem wn_172 : Cond.fieldLinkNest "ProxyVotes" 150 "ProxyVotes$Item" "state" "I" "ProxyVotes" ∈ kNest := List.mem_filter.mpr ⟨List.mem_of_getElem? (i := 172) (by decide +kernel), rfl⟩
theorem wn_174 : Cond.fieldLinkNest "ProxyVotes$Committee" 73 "ProxyVotes$Item" "recusedByHand" "I" "ProxyVotes" ∈ kNest := List.mem_filter.mpr ⟨List.mem_of_getElem? (i := 174) (by decide +kernel), rfl⟩
theorem wn_176 : Cond.fieldLinkNest "ProxyVotes$Committee" 95 "ProxyVotes$Item" "breaker" "I" "ProxyVotes" ∈ kNest := List.mem_filter.mpr ⟨List.mem_of_getElem? (i := 176) (by decide +kernel), rfl⟩
theorem wn_177 : Cond.fieldLinkNest "ProxyVotes" 153 "ProxyVotes$Item" "breaker" "I" "ProxyVotes" ∈ kNest := List.mem_filter.mpr ⟨List.mem_of_getElem? (i := 177) (by decide +kernel), rfl⟩
theorem wn_179 : Cond.fieldLinkNest "ProxyVotes" 156 "ProxyVotes$Item" "timesPutOff" "I" "ProxyVotes" ∈ kNest := List.mem_filter.mpr ⟨List.mem_of_getElem? (i := 179) (by decide +kernel), rfl⟩
theorem wn_181 : Cond.fieldLinkNest "ProxyVotes" 246 "ProxyVotes$Item" "sums" "[I" "ProxyVotes" ∈ kNest := List.mem_filter.mpr ⟨List.mem_of_getElem? (i := 181) (by decide +kernel), rfl⟩
theorem wn_182 : Cond.fieldLinkNest "ProxyVotes$Committee" 159 "ProxyVotes$Item" "sums" "[I" "ProxyVotes" ∈ kNest := List.mem_filter.mpr ⟨List.mem_of_getElem? (i := 182) (by decide +kernel), rfl⟩
theorem wn_184 : Cond.fieldLinkNest "ProxyVotes$Hearing" 58 "ProxyVotes$Item" "votes" "[I" "ProxyVotes" ∈ kNest := List.mem_filter.mpr ⟨List.mem_of_getElem? (i := 184) (by decide +kernel), rfl⟩
theorem wn_185 : Cond.fieldLinkNest "ProxyVotes$Committee" 92 "ProxyVotes$Item" "votes" "[I" "ProxyVotes" ∈ kNest := List.mem_filter.mpr ⟨List.mem_of_getElem? (i := 185) (by decide +kernel), rfl⟩
theorem wn_186 : Cond.fieldLinkNest "ProxyVotes" 177 "ProxyVotes$Item" "votes" "[I" "ProxyVotes" ∈ kNest := List.mem_filter.mpr ⟨List.mem_of_getElem? (i := 186) (by decide +kernel), rfl⟩
theorem wn_188 : Cond.fieldLinkNest "ProxyVotes$Hearing" 63 "ProxyVotes$Item" "told" "[I" "ProxyVotes" ∈ kNest := List.mem_filter.mpr ⟨List.mem_of_getElem? (i := 188) (by decide +kernel), rfl⟩
theorem wn_189 : Cond.fieldLinkNest "ProxyVotes" 180 "ProxyVotes$Item" "told" "[I" "ProxyVotes" ∈ kNest := List.mem_filter.mpr ⟨List.mem_of_getElem? (i := 189) (by decide +kernel), rfl⟩
theorem wn_190 : Cond.fieldLinkNest "ProxyVotes$Committee" 131 "ProxyVotes$Item" "told" "[I" "ProxyVotes" ∈ kNest := List.mem_filter.mpr ⟨List.mem_of_getElem? (i := 190) (by decide +kernel), rfl⟩
theorem wn_192 : Cond.fieldLinkNest "ProxyVotes$Committee" 84 "ProxyVotes$Item" "holders" "[I" "ProxyVotes" ∈ kNest := List.mem_filter.mpr ⟨List.mem_of_getElem? (i := 192) (by decide +kernel), rfl⟩
theorem wn_193 : Cond.fieldLinkNest "ProxyVotes" 187 "ProxyVotes$Item" "holders" "[I" "ProxyVotes" ∈ kNest := List.mem_filter.mpr ⟨List.mem_of_getElem? (i := 193) (by decide +kernel), rfl⟩
theorem wn_216 : Cond.fieldLinkNest "ProxyVotes" 202 "ProxyVotes$Committee" "minute" "I" "ProxyVotes" ∈ kNest := List.mem_filter.mpr ⟨List.mem_of_getElem? (i := 216) (by decide +kernel), rfl⟩
theorem wn_218 : Cond.fieldLinkNest "ProxyVotes$Hearing" 27 "ProxyVotes$Committee" "memberCount" "I" "ProxyVotes" ∈ kNest := List.mem_filter.mpr ⟨List.mem_of_getElem? (i := 218) (by decide +kernel), rfl⟩
theorem wn_219 : Cond.fieldLinkNest "ProxyVotes" 205 "ProxyVotes$Committee" "memberCount" "I" "ProxyVotes" ∈ kNest := List.mem_filter.mpr ⟨List.mem_of_getElem? (i := 219) (by decide +kernel), rfl⟩
theorem wn_221 : Cond.fieldLinkNest "ProxyVotes" 208 "ProxyVotes$Committee" "itemCount" "I" "ProxyVotes" ∈ kNest := List.mem_filter.mpr ⟨List.mem_of_getElem? (i := 221) (by decide +kernel), rfl⟩
theorem wn_223 : Cond.fieldLinkNest "ProxyVotes" 211 "ProxyVotes$Committee" "present" "I" "ProxyVotes" ∈ kNest := List.mem_filter.mpr ⟨List.mem_of_getElem? (i := 223) (by decide +kernel), rfl⟩
theorem wn_225 : Cond.fieldLinkNest "ProxyVotes" 217 "ProxyVotes$Committee" "chairNamed" "I" "ProxyVotes" ∈ kNest := List.mem_filter.mpr ⟨List.mem_of_getElem? (i := 225) (by decide +kernel), rfl⟩
theorem wn_227 : Cond.fieldLinkNest "ProxyVotes$Hearing" 48 "ProxyVotes$Committee" "settings" "[I" "ProxyVotes" ∈ kNest := List.mem_filter.mpr ⟨List.mem_of_getElem? (i := 227) (by decide +kernel), rfl⟩
theorem wn_228 : Cond.fieldLinkNest "ProxyVotes" 199 "ProxyVotes$Committee" "settings" "[I" "ProxyVotes" ∈ kNest := List.mem_filter.mpr ⟨List.mem_of_getElem? (i := 228) (by decide +kernel), rfl⟩
theorem wn_230 : Cond.fieldLinkNest "ProxyVotes$Hearing" 55 "ProxyVotes$Committee" "weights" "[I" "ProxyVotes" ∈ kNest := List.mem_filter.mpr ⟨List.mem_of_getElem? (i := 230) (by decide +kernel), rfl⟩
theorem wn_231 : Cond.fieldLinkNest "ProxyVotes" 116 "ProxyVotes$Committee" "weights" "[I" "ProxyVotes" ∈ kNest := List.mem_filter.mpr ⟨List.mem_of_getElem? (i := 231) (by decide +kernel), rfl⟩
theorem wn_233 : Cond.fieldLinkNest "ProxyVotes" 119 "ProxyVotes$Committee" "groups" "[I" "ProxyVotes" ∈ kNest := List.mem_filter.mpr ⟨List.mem_of_getElem? (i := 233) (by decide +kernel), rfl⟩
theorem wn_235 : Cond.fieldLinkNest "ProxyVotes" 125 "ProxyVotes$Committee" "holders" "[I" "ProxyVotes" ∈ kNest := List.mem_filter.mpr ⟨List.mem_of_getElem? (i := 235) (by decide +kernel), rfl⟩
theorem wn_237 : Cond.fieldLinkNest "ProxyVotes" 137 "ProxyVotes$Committee" "items" "[LProxyVotes$Item;" "ProxyVotes" ∈ kNest := List.mem_filter.mpr ⟨List.mem_of_getElem? (i := 237) (by decide +kernel), rfl⟩
theorem wn_239 : Cond.fieldLinkNest "ProxyVotes" 227 "ProxyVotes$Committee" "movements" "LProxyVotes$Movements;" "ProxyVotes" ∈ kNest := List.mem_filter.mpr ⟨List.mem_of_getElem? (i := 239) (by decide +kernel), rfl⟩
theorem wn_265 : Cond.methodLinkNest "ProxyVotes" 21 ⟨"ProxyVotes$Hearing", "<init>", "()V"⟩ "ProxyVotes" ∈ kNest := List.mem_filter.mpr ⟨List.mem_of_getElem? (i := 265) (by decide +kernel), rfl⟩
theorem wn_270 : Cond.fieldLinkNest "ProxyVotes" 174 "ProxyVotes$Hearing" "speakers" "[I" "ProxyVotes" ∈ kNest := List.mem_filter.mpr ⟨List.mem_of_getElem? (i := 270) (by decide +kernel), rfl⟩
theorem wn_272 : Cond.fieldLinkNest "ProxyVotes" 288 "ProxyVotes$Hearing" "loads" "[I" "ProxyVotes" ∈ kNest := List.mem_filter.mpr ⟨List.mem_of_getElem? (i := 272) (by decide +kernel), rfl⟩
theorem wn_274 : Cond.fieldLinkNest "ProxyVotes" 252 "ProxyVotes$Hearing" "sums" "[I" "ProxyVotes" ∈ kNest := List.mem_filter.mpr ⟨List.mem_of_getElem? (i := 274) (by decide +kernel), rfl⟩
theorem wn_275 : Cond.fieldLinkNest "ProxyVotes$Committee" 156 "ProxyVotes$Hearing" "sums" "[I" "ProxyVotes" ∈ kNest := List.mem_filter.mpr ⟨List.mem_of_getElem? (i := 275) (by decide +kernel), rfl⟩
theorem wn_285 : Cond.methodLinkNest "ProxyVotes" 28 ⟨"ProxyVotes$History", "<init>", "()V"⟩ "ProxyVotes" ∈ kNest := List.mem_filter.mpr ⟨List.mem_of_getElem? (i := 285) (by decide +kernel), rfl⟩
theorem wn_291 : Cond.methodLinkNest "ProxyVotes$History" 17 ⟨"ProxyVotes$Committee", "<init>", "()V"⟩ "ProxyVotes" ∈ kNest := List.mem_filter.mpr ⟨List.mem_of_getElem? (i := 291) (by decide +kernel), rfl⟩
theorem wn_295 : Cond.fieldLinkNest "ProxyVotes" 239 "ProxyVotes$History" "kept" "I" "ProxyVotes" ∈ kNest := List.mem_filter.mpr ⟨List.mem_of_getElem? (i := 295) (by decide +kernel), rfl⟩
theorem wn_305 : Cond.methodLinkNest "ProxyVotes" 35 ⟨"ProxyVotes$Pad", "<init>", "()V"⟩ "ProxyVotes" ∈ kNest := List.mem_filter.mpr ⟨List.mem_of_getElem? (i := 305) (by decide +kernel), rfl⟩
theorem wn_311 : Cond.fieldLinkNest "ProxyVotes" 236 "ProxyVotes$Pad" "length" "I" "ProxyVotes" ∈ kNest := List.mem_filter.mpr ⟨List.mem_of_getElem? (i := 311) (by decide +kernel), rfl⟩
theorem wn_314 : Cond.fieldLinkNest "ProxyVotes" 310 "ProxyVotes$Pad" "orders" "I" "ProxyVotes" ∈ kNest := List.mem_filter.mpr ⟨List.mem_of_getElem? (i := 314) (by decide +kernel), rfl⟩
theorem wn_316 : Cond.fieldLinkNest "ProxyVotes" 325 "ProxyVotes$Pad" "signs" "[C" "ProxyVotes" ∈ kNest := List.mem_filter.mpr ⟨List.mem_of_getElem? (i := 316) (by decide +kernel), rfl⟩
theorem wn_318 : Cond.fieldLinkNest "ProxyVotes" 319 "ProxyVotes$Pad" "members" "[I" "ProxyVotes" ∈ kNest := List.mem_filter.mpr ⟨List.mem_of_getElem? (i := 318) (by decide +kernel), rfl⟩
theorem wn_320 : Cond.fieldLinkNest "ProxyVotes" 322 "ProxyVotes$Pad" "numbers" "[I" "ProxyVotes" ∈ kNest := List.mem_filter.mpr ⟨List.mem_of_getElem? (i := 320) (by decide +kernel), rfl⟩
theorem wn_370 : Cond.methodLinkNest "ProxyVotes" 55 ⟨"ProxyVotes$History", "note", "(LProxyVotes$Committee;)V"⟩ "ProxyVotes" ∈ kNest := List.mem_filter.mpr ⟨List.mem_of_getElem? (i := 370) (by decide +kernel), rfl⟩
theorem wn_374 : Cond.methodLinkNest "ProxyVotes$History" 22 ⟨"ProxyVotes$Committee", "copyFrom", "(LProxyVotes$Committee;)V"⟩ "ProxyVotes" ∈ kNest := List.mem_filter.mpr ⟨List.mem_of_getElem? (i := 374) (by decide +kernel), rfl⟩
theorem wn_378 : Cond.methodLinkNest "ProxyVotes$Committee" 63 ⟨"ProxyVotes$Item", "copyFrom", "(LProxyVotes$Item;)V"⟩ "ProxyVotes" ∈ kNest := List.mem_filter.mpr ⟨List.mem_of_getElem? (i := 378) (by decide +kernel), rfl⟩
theorem wn_383 : Cond.methodLinkNest "ProxyVotes$Committee" 67 ⟨"ProxyVotes$Movements", "copyFrom", "(LProxyVotes$Movements;)V"⟩ "ProxyVotes" ∈ kNest := List.mem_filter.mpr ⟨List.mem_of_getElem? (i := 383) (by decide +kernel), rfl⟩
theorem wn_388 : Cond.methodLinkNest "ProxyVotes" 59 ⟨"ProxyVotes$Committee", "changeSetting", "(II)I"⟩ "ProxyVotes" ∈ kNest := List.mem_filter.mpr ⟨List.mem_of_getElem? (i := 388) (by decide +kernel), rfl⟩
theorem wn_392 : Cond.fieldLinkNest "ProxyVotes$Committee" 98 "ProxyVotes" "HIGHEST_VALUES" "[I" "ProxyVotes" ∈ kNest := List.mem_filter.mpr ⟨List.mem_of_getElem? (i := 392) (by decide +kernel), rfl⟩
theorem wn_394 : Cond.methodLinkNest "ProxyVotes" 63 ⟨"ProxyVotes$History", "settle", "(I)I"⟩ "ProxyVotes" ∈ kNest := List.mem_filter.mpr ⟨List.mem_of_getElem? (i := 394) (by decide +kernel), rfl⟩
theorem wn_398 : Cond.methodLinkNest "ProxyVotes$History" 26 ⟨"ProxyVotes", "isError", "(I)Z"⟩ "ProxyVotes" ∈ kNest := List.mem_filter.mpr ⟨List.mem_of_getElem? (i := 398) (by decide +kernel), rfl⟩
theorem wn_408 : Cond.methodLinkNest "ProxyVotes" 67 ⟨"ProxyVotes$Committee", "addMember", "(II)I"⟩ "ProxyVotes" ∈ kNest := List.mem_filter.mpr ⟨List.mem_of_getElem? (i := 408) (by decide +kernel), rfl⟩
theorem wn_416 : Cond.methodLinkNest "ProxyVotes" 70 ⟨"ProxyVotes$Committee", "addItem", "(II)I"⟩ "ProxyVotes" ∈ kNest := List.mem_filter.mpr ⟨List.mem_of_getElem? (i := 416) (by decide +kernel), rfl⟩
theorem wn_420 : Cond.methodLinkNest "ProxyVotes$Committee" 101 ⟨"ProxyVotes$Item", "begin", "(II)V"⟩ "ProxyVotes" ∈ kNest := List.mem_filter.mpr ⟨List.mem_of_getElem? (i := 420) (by decide +kernel), rfl⟩
theorem wn_431 : Cond.methodLinkNest "ProxyVotes" 73 ⟨"ProxyVotes$Committee", "nameChair", "(I)I"⟩ "ProxyVotes" ∈ kNest := List.mem_filter.mpr ⟨List.mem_of_getElem? (i := 431) (by decide +kernel), rfl⟩
theorem wn_443 : Cond.methodLinkNest "ProxyVotes" 76 ⟨"ProxyVotes$Committee", "bringIn", "(I)I"⟩ "ProxyVotes" ∈ kNest := List.mem_filter.mpr ⟨List.mem_of_getElem? (i := 443) (by decide +kernel), rfl⟩
theorem wn_461 : Cond.methodLinkNest "ProxyVotes" 79 ⟨"ProxyVotes$Committee", "sendAway", "(I)I"⟩ "ProxyVotes" ∈ kNest := List.mem_filter.mpr ⟨List.mem_of_getElem? (i := 461) (by decide +kernel), rfl⟩
theorem wn_469 : Cond.methodLinkNest "ProxyVotes" 82 ⟨"ProxyVotes$Committee", "addMovement", "(III)I"⟩ "ProxyVotes" ∈ kNest := List.mem_filter.mpr ⟨List.mem_of_getElem? (i := 469) (by decide +kernel), rfl⟩
theorem wn_473 : Cond.methodLinkNest "ProxyVotes$Committee" 117 ⟨"ProxyVotes$Movements", "append", "(III)V"⟩ "ProxyVotes" ∈ kNest := List.mem_filter.mpr ⟨List.mem_of_getElem? (i := 473) (by decide +kernel), rfl⟩
theorem wn_481 : Cond.methodLinkNest "ProxyVotes" 86 ⟨"ProxyVotes$Committee", "nameHolder", "(III)I"⟩ "ProxyVotes" ∈ kNest := List.mem_filter.mpr ⟨List.mem_of_getElem? (i := 481) (by decide +kernel), rfl⟩
theorem wn_493 : Cond.methodLinkNest "ProxyVotes" 89 ⟨"ProxyVotes$Committee", "tellChoice", "(III)I"⟩ "ProxyVotes" ∈ kNest := List.mem_filter.mpr ⟨List.mem_of_getElem? (i := 493) (by decide +kernel), rfl⟩
theorem wn_497 : Cond.methodLinkNest "ProxyVotes$Committee" 124 ⟨"ProxyVotes", "isChoice", "(I)Z"⟩ "ProxyVotes" ∈ kNest := List.mem_filter.mpr ⟨List.mem_of_getElem? (i := 497) (by decide +kernel), rfl⟩
theorem wn_500 : Cond.methodLinkNest "ProxyVotes$Committee" 127 ⟨"ProxyVotes$Item", "isPending", "()Z"⟩ "ProxyVotes" ∈ kNest := List.mem_filter.mpr ⟨List.mem_of_getElem? (i := 500) (by decide +kernel), rfl⟩
theorem wn_508 : Cond.methodLinkNest "ProxyVotes" 92 ⟨"ProxyVotes$Committee", "recuseByHand", "(III)I"⟩ "ProxyVotes" ∈ kNest := List.mem_filter.mpr ⟨List.mem_of_getElem? (i := 508) (by decide +kernel), rfl⟩
theorem wn_520 : Cond.methodLinkNest "ProxyVotes" 95 ⟨"ProxyVotes$Committee", "openItem", "(ILProxyVotes$Hearing;)I"⟩ "ProxyVotes" ∈ kNest := List.mem_filter.mpr ⟨List.mem_of_getElem? (i := 520) (by decide +kernel), rfl⟩
theorem wn_524 : Cond.methodLinkNest "ProxyVotes$Committee" 134 ⟨"ProxyVotes$Hearing", "listen", "(LProxyVotes$Committee;LProxyVotes$Item;)V"⟩ "ProxyVotes" ∈ kNest := List.mem_filter.mpr ⟨List.mem_of_getElem? (i := 524) (by decide +kernel), rfl⟩
theorem wn_529 : Cond.methodLinkNest "ProxyVotes$Hearing" 33 ⟨"ProxyVotes$Committee", "isRecused", "(ILProxyVotes$Item;)Z"⟩ "ProxyVotes" ∈ kNest := List.mem_filter.mpr ⟨List.mem_of_getElem? (i := 529) (by decide +kernel), rfl⟩
theorem wn_530 : Cond.methodLinkNest "ProxyVotes$Hearing" 37 ⟨"ProxyVotes$Committee", "isPresent", "(I)Z"⟩ "ProxyVotes" ∈ kNest := List.mem_filter.mpr ⟨List.mem_of_getElem? (i := 530) (by decide +kernel), rfl⟩
theorem wn_539 : Cond.methodLinkNest "ProxyVotes$Hearing" 51 ⟨"ProxyVotes$Committee", "holderFor", "(ILProxyVotes$Item;)I"⟩ "ProxyVotes" ∈ kNest := List.mem_filter.mpr ⟨List.mem_of_getElem? (i := 539) (by decide +kernel), rfl⟩
theorem wn_543 : Cond.methodLinkNest "ProxyVotes$Committee" 140 ⟨"ProxyVotes$Hearing", "weightThere", "(LProxyVotes$Committee;)I"⟩ "ProxyVotes" ∈ kNest := List.mem_filter.mpr ⟨List.mem_of_getElem? (i := 543) (by decide +kernel), rfl⟩
theorem wn_563 : Cond.methodLinkNest "ProxyVotes" 99 ⟨"ProxyVotes$Committee", "giveVote", "(II)I"⟩ "ProxyVotes" ∈ kNest := List.mem_filter.mpr ⟨List.mem_of_getElem? (i := 563) (by decide +kernel), rfl⟩
theorem wn_575 : Cond.methodLinkNest "ProxyVotes" 102 ⟨"ProxyVotes$Committee", "closeItem", "(LProxyVotes$Hearing;)I"⟩ "ProxyVotes" ∈ kNest := List.mem_filter.mpr ⟨List.mem_of_getElem? (i := 575) (by decide +kernel), rfl⟩
theorem wn_579 : Cond.methodLinkNest "ProxyVotes$Committee" 153 ⟨"ProxyVotes$Hearing", "tally", "(LProxyVotes$Committee;LProxyVotes$Item;)V"⟩ "ProxyVotes" ∈ kNest := List.mem_filter.mpr ⟨List.mem_of_getElem? (i := 579) (by decide +kernel), rfl⟩
theorem wn_587 : Cond.methodLinkNest "ProxyVotes$Committee" 160 ⟨"ProxyVotes$Hearing", "outcome", "(LProxyVotes$Committee;LProxyVotes$Item;I)I"⟩ "ProxyVotes" ∈ kNest := List.mem_filter.mpr ⟨List.mem_of_getElem? (i := 587) (by decide +kernel), rfl⟩
theorem wn_591 : Cond.methodLinkNest "ProxyVotes$Committee" 164 ⟨"ProxyVotes$Item", "putOff", "()V"⟩ "ProxyVotes" ∈ kNest := List.mem_filter.mpr ⟨List.mem_of_getElem? (i := 591) (by decide +kernel), rfl⟩
theorem wn_599 : Cond.methodLinkNest "ProxyVotes" 106 ⟨"ProxyVotes$Committee", "breakTie", "(I)I"⟩ "ProxyVotes" ∈ kNest := List.mem_filter.mpr ⟨List.mem_of_getElem? (i := 599) (by decide +kernel), rfl⟩
theorem wn_611 : Cond.methodLinkNest "ProxyVotes" 109 ⟨"ProxyVotes$Committee", "letPass", "(I)I"⟩ "ProxyVotes" ∈ kNest := List.mem_filter.mpr ⟨List.mem_of_getElem? (i := 611) (by decide +kernel), rfl⟩
theorem wn_619 : Cond.methodLinkNest "ProxyVotes$Committee" 174 ⟨"ProxyVotes$Movements", "next", "()I"⟩ "ProxyVotes" ∈ kNest := List.mem_filter.mpr ⟨List.mem_of_getElem? (i := 619) (by decide +kernel), rfl⟩
theorem wn_623 : Cond.methodLinkNest "ProxyVotes$Committee" 186 ⟨"ProxyVotes$Movements", "drop", "(I)V"⟩ "ProxyVotes" ∈ kNest := List.mem_filter.mpr ⟨List.mem_of_getElem? (i := 623) (by decide +kernel), rfl⟩
theorem wn_631 : Cond.methodLinkNest "ProxyVotes" 112 ⟨"ProxyVotes$Committee", "hasMember", "(I)Z"⟩ "ProxyVotes" ∈ kNest := List.mem_filter.mpr ⟨List.mem_of_getElem? (i := 631) (by decide +kernel), rfl⟩
theorem wn_632 : Cond.methodLinkNest "ProxyVotes" 122 ⟨"ProxyVotes$Committee", "isPresent", "(I)Z"⟩ "ProxyVotes" ∈ kNest := List.mem_filter.mpr ⟨List.mem_of_getElem? (i := 632) (by decide +kernel), rfl⟩
theorem wn_633 : Cond.methodLinkNest "ProxyVotes" 128 ⟨"ProxyVotes$Committee", "votesOf", "(I)I"⟩ "ProxyVotes" ∈ kNest := List.mem_filter.mpr ⟨List.mem_of_getElem? (i := 633) (by decide +kernel), rfl⟩
theorem wn_637 : Cond.methodLinkNest "ProxyVotes" 131 ⟨"ProxyVotes$Committee", "tiesBrokenBy", "(I)I"⟩ "ProxyVotes" ∈ kNest := List.mem_filter.mpr ⟨List.mem_of_getElem? (i := 637) (by decide +kernel), rfl⟩
theorem wn_645 : Cond.methodLinkNest "ProxyVotes" 134 ⟨"ProxyVotes$Committee", "hasItem", "(I)Z"⟩ "ProxyVotes" ∈ kNest := List.mem_filter.mpr ⟨List.mem_of_getElem? (i := 645) (by decide +kernel), rfl⟩
theorem wn_646 : Cond.methodLinkNest "ProxyVotes" 159 ⟨"ProxyVotes$Hearing", "listen", "(LProxyVotes$Committee;LProxyVotes$Item;)V"⟩ "ProxyVotes" ∈ kNest := List.mem_filter.mpr ⟨List.mem_of_getElem? (i := 646) (by decide +kernel), rfl⟩
theorem wn_647 : Cond.methodLinkNest "ProxyVotes" 163 ⟨"ProxyVotes$Hearing", "weightThere", "(LProxyVotes$Committee;)I"⟩ "ProxyVotes" ∈ kNest := List.mem_filter.mpr ⟨List.mem_of_getElem? (i := 647) (by decide +kernel), rfl⟩
theorem wn_648 : Cond.methodLinkNest "ProxyVotes" 167 ⟨"ProxyVotes$Committee", "isQuorum", "(I)Z"⟩ "ProxyVotes" ∈ kNest := List.mem_filter.mpr ⟨List.mem_of_getElem? (i := 648) (by decide +kernel), rfl⟩
theorem wn_653 : Cond.methodLinkNest "ProxyVotes" 242 ⟨"ProxyVotes$Item", "isPending", "()Z"⟩ "ProxyVotes" ∈ kNest := List.mem_filter.mpr ⟨List.mem_of_getElem? (i := 653) (by decide +kernel), rfl⟩
theorem wn_654 : Cond.methodLinkNest "ProxyVotes" 249 ⟨"ProxyVotes$Hearing", "tally", "(LProxyVotes$Committee;LProxyVotes$Item;)V"⟩ "ProxyVotes" ∈ kNest := List.mem_filter.mpr ⟨List.mem_of_getElem? (i := 654) (by decide +kernel), rfl⟩
theorem wn_659 : Cond.methodLinkNest "ProxyVotes" 183 ⟨"ProxyVotes$Hearing", "wayOf", "(LProxyVotes$Committee;LProxyVotes$Item;I)I"⟩ "ProxyVotes" ∈ kNest := List.mem_filter.mpr ⟨List.mem_of_getElem? (i := 659) (by decide +kernel), rfl⟩
theorem wn_660 : Cond.methodLinkNest "ProxyVotes" 188 ⟨"ProxyVotes$Committee", "isRecused", "(ILProxyVotes$Item;)Z"⟩ "ProxyVotes" ∈ kNest := List.mem_filter.mpr ⟨List.mem_of_getElem? (i := 660) (by decide +kernel), rfl⟩
theorem wn_661 : Cond.methodLinkNest "ProxyVotes" 192 ⟨"ProxyVotes$Hearing", "spokenForBy", "(LProxyVotes$Committee;I)I"⟩ "ProxyVotes" ∈ kNest := List.mem_filter.mpr ⟨List.mem_of_getElem? (i := 661) (by decide +kernel), rfl⟩
theorem wn_669 : Cond.methodLinkNest "ProxyVotes" 196 ⟨"ProxyVotes$Committee", "itemsIn", "(I)I"⟩ "ProxyVotes" ∈ kNest := List.mem_filter.mpr ⟨List.mem_of_getElem? (i := 669) (by decide +kernel), rfl⟩
theorem wn_673 : Cond.methodLinkNest "ProxyVotes" 214 ⟨"ProxyVotes$Committee", "firstIn", "(I)I"⟩ "ProxyVotes" ∈ kNest := List.mem_filter.mpr ⟨List.mem_of_getElem? (i := 673) (by decide +kernel), rfl⟩
theorem wn_674 : Cond.methodLinkNest "ProxyVotes" 220 ⟨"ProxyVotes$Committee", "chairOfTheMoment", "()I"⟩ "ProxyVotes" ∈ kNest := List.mem_filter.mpr ⟨List.mem_of_getElem? (i := 674) (by decide +kernel), rfl⟩
theorem wn_675 : Cond.methodLinkNest "ProxyVotes" 224 ⟨"ProxyVotes$Committee", "weightOfAll", "()I"⟩ "ProxyVotes" ∈ kNest := List.mem_filter.mpr ⟨List.mem_of_getElem? (i := 675) (by decide +kernel), rfl⟩
theorem wn_680 : Cond.methodLinkNest "ProxyVotes" 253 ⟨"ProxyVotes$Hearing", "outcome", "(LProxyVotes$Committee;LProxyVotes$Item;I)I"⟩ "ProxyVotes" ∈ kNest := List.mem_filter.mpr ⟨List.mem_of_getElem? (i := 680) (by decide +kernel), rfl⟩
theorem wn_685 : Cond.methodLinkNest "ProxyVotes" 256 ⟨"ProxyVotes$Committee", "copyFrom", "(LProxyVotes$Committee;)V"⟩ "ProxyVotes" ∈ kNest := List.mem_filter.mpr ⟨List.mem_of_getElem? (i := 685) (by decide +kernel), rfl⟩
theorem wn_686 : Cond.methodLinkNest "ProxyVotes" 259 ⟨"ProxyVotes$Committee", "canVote", "(ILProxyVotes$Item;)Z"⟩ "ProxyVotes" ∈ kNest := List.mem_filter.mpr ⟨List.mem_of_getElem? (i := 686) (by decide +kernel), rfl⟩
theorem wn_721 : Cond.methodLinkNest "ProxyVotes" 282 ⟨"ProxyVotes$Committee", "nextTurn", "()I"⟩ "ProxyVotes" ∈ kNest := List.mem_filter.mpr ⟨List.mem_of_getElem? (i := 721) (by decide +kernel), rfl⟩
theorem wn_726 : Cond.methodLinkNest "ProxyVotes" 285 ⟨"ProxyVotes$Committee", "moveTo", "(I)V"⟩ "ProxyVotes" ∈ kNest := List.mem_filter.mpr ⟨List.mem_of_getElem? (i := 726) (by decide +kernel), rfl⟩
theorem wn_735 : Cond.methodLinkNest "ProxyVotes" 300 ⟨"ProxyVotes$Pad", "append", "(J)I"⟩ "ProxyVotes" ∈ kNest := List.mem_filter.mpr ⟨List.mem_of_getElem? (i := 735) (by decide +kernel), rfl⟩
theorem wn_746 : Cond.methodLinkNest "ProxyVotes" 304 ⟨"ProxyVotes$Pad", "empty", "()I"⟩ "ProxyVotes" ∈ kNest := List.mem_filter.mpr ⟨List.mem_of_getElem? (i := 746) (by decide +kernel), rfl⟩
theorem wn_754 : Cond.methodLinkNest "ProxyVotes" 307 ⟨"ProxyVotes$Pad", "read", "()I"⟩ "ProxyVotes" ∈ kNest := List.mem_filter.mpr ⟨List.mem_of_getElem? (i := 754) (by decide +kernel), rfl⟩
theorem wn_797 : Cond.methodLinkNest "ProxyVotes" 329 ⟨"ProxyVotes$History", "takeBack", "(LProxyVotes$Committee;)I"⟩ "ProxyVotes" ∈ kNest := List.mem_filter.mpr ⟨List.mem_of_getElem? (i := 797) (by decide +kernel), rfl⟩
