/-! METHODS, words, links: printed by wip/p35/emit.py out of the claim's printed texts. -/
def m_V_init : kM := (⟨"ProxyVotes$Movements", "<init>", "()V"⟩, prog_6_method_1_code, 1, none, 1, 3, 60, 12)
def m_I_init : kM := (⟨"ProxyVotes$Item", "<init>", "()V"⟩, prog_5_method_1_code, 1, none, 1, 4, 42, 12)
def m_C_init : kM := (⟨"ProxyVotes$Committee", "<init>", "()V"⟩, prog_2_method_1_code, 2, none, 2, 69, 742, 32)
def m_H_init : kM := (⟨"ProxyVotes$Hearing", "<init>", "()V"⟩, prog_3_method_1_code, 1, none, 1, 3, 30, 12)
def m_Y_init : kM := (⟨"ProxyVotes$History", "<init>", "()V"⟩, prog_4_method_1_code, 2, none, 3, 491, 5278, 53)
def m_D_init : kM := (⟨"ProxyVotes$Pad", "<init>", "()V"⟩, prog_7_method_1_code, 1, none, 1, 4, 320, 12)
def m_P_init : kM := (⟨"ProxyVotes", "<init>", "()V"⟩, prog_1_method_1_code, 2, none, 4, 785, 8778, 74)
def m_I_copyFrom : kM := (⟨"ProxyVotes$Item", "copyFrom", "(LProxyVotes$Item;)V"⟩, prog_5_method_3_code, 2, none, 1, 0, 0, 32)
def m_V_copyFrom : kM := (⟨"ProxyVotes$Movements", "copyFrom", "(LProxyVotes$Movements;)V"⟩, prog_6_method_5_code, 2, none, 1, 0, 0, 32)
def m_C_copyFrom : kM := (⟨"ProxyVotes$Committee", "copyFrom", "(LProxyVotes$Committee;)V"⟩, prog_2_method_2_code, 3, none, 2, 0, 0, 53)
def m_Y_note : kM := (⟨"ProxyVotes$History", "note", "(LProxyVotes$Committee;)V"⟩, prog_4_method_2_code, 2, none, 3, 0, 0, 75)
def m_C_changeSetting : kM := (⟨"ProxyVotes$Committee", "changeSetting", "(II)I"⟩, prog_2_method_16_code, 4, some .int, 0, 0, 0, 0)
def m_P_isError : kM := (⟨"ProxyVotes", "isError", "(I)Z"⟩, prog_1_method_41_code, 1, some .boolean, 0, 0, 0, 0)
def m_JM_min : kM := (⟨"java/lang/Math", "min", "(II)I"⟩, prog_11_method_69_code, 2, some .int, 0, 0, 0, 0)
def m_Y_settle : kM := (⟨"ProxyVotes$History", "settle", "(I)I"⟩, prog_4_method_3_code, 2, some .int, 1, 0, 0, 21)
def m_P_set : kM := (⟨"ProxyVotes", "set", "(II)I"⟩, prog_1_method_2_code, 3, some .int, 4, 0, 0, 96)
def m_C_addMember : kM := (⟨"ProxyVotes$Committee", "addMember", "(II)I"⟩, prog_2_method_17_code, 3, some .int, 0, 0, 0, 0)
def m_P_member : kM := (⟨"ProxyVotes", "member", "(II)I"⟩, prog_1_method_3_code, 3, some .int, 4, 0, 0, 96)
def m_JA_fill : kM := (⟨"java/util/Arrays", "fill", "([II)V"⟩, prog_13_method_103_code, 4, none, 0, 0, 0, 0)
def m_I_begin : kM := (⟨"ProxyVotes$Item", "begin", "(II)V"⟩, prog_5_method_2_code, 3, none, 1, 0, 0, 23)
def m_C_addItem : kM := (⟨"ProxyVotes$Committee", "addItem", "(II)I"⟩, prog_2_method_18_code, 3, some .int, 2, 0, 0, 45)
def m_P_item : kM := (⟨"ProxyVotes", "item", "(II)I"⟩, prog_1_method_4_code, 3, some .int, 4, 0, 0, 96)
def m_C_hasMember : kM := (⟨"ProxyVotes$Committee", "hasMember", "(I)Z"⟩, prog_2_method_3_code, 2, some .boolean, 0, 0, 0, 0)
def m_C_nameChair : kM := (⟨"ProxyVotes$Committee", "nameChair", "(I)I"⟩, prog_2_method_19_code, 3, some .int, 1, 0, 0, 21)
def m_P_chair : kM := (⟨"ProxyVotes", "chair", "(I)I"⟩, prog_1_method_5_code, 2, some .int, 4, 0, 0, 96)
def m_C_isPresent : kM := (⟨"ProxyVotes$Committee", "isPresent", "(I)Z"⟩, prog_2_method_5_code, 2, some .boolean, 0, 0, 0, 0)
def m_C_votesOf : kM := (⟨"ProxyVotes$Committee", "votesOf", "(I)I"⟩, prog_2_method_14_code, 4, some .int, 0, 0, 0, 0)
def m_C_tiesBrokenBy : kM := (⟨"ProxyVotes$Committee", "tiesBrokenBy", "(I)I"⟩, prog_2_method_15_code, 4, some .int, 0, 0, 0, 0)
def m_P_ofMember : kM := (⟨"ProxyVotes", "ofMember", "(II)I"⟩, prog_1_method_17_code, 3, some .int, 1, 0, 0, 23)
def m_C_itemsIn : kM := (⟨"ProxyVotes$Committee", "itemsIn", "(I)I"⟩, prog_2_method_13_code, 4, some .int, 0, 0, 0, 0)
def m_C_firstIn : kM := (⟨"ProxyVotes$Committee", "firstIn", "(I)I"⟩, prog_2_method_12_code, 3, some .int, 0, 0, 0, 0)
def m_C_chairOfTheMoment : kM := (⟨"ProxyVotes$Committee", "chairOfTheMoment", "()I"⟩, prog_2_method_11_code, 2, some .int, 1, 0, 0, 21)
def m_C_weightOfAll : kM := (⟨"ProxyVotes$Committee", "weightOfAll", "()I"⟩, prog_2_method_9_code, 3, some .int, 0, 0, 0, 0)
def m_P_count : kM := (⟨"ProxyVotes", "count", "(I)I"⟩, prog_1_method_20_code, 2, some .int, 2, 0, 0, 42)
def m_L_cell : kM := (⟨"ProxyVotesLaw", "cell", "([III)I"⟩, method_2_code, 3, some .int, 0, 0, 0, 0)
def m_C_hasItem : kM := (⟨"ProxyVotes$Committee", "hasItem", "(I)Z"⟩, prog_2_method_4_code, 2, some .boolean, 0, 0, 0, 0)
def m_C_isRecused : kM := (⟨"ProxyVotes$Committee", "isRecused", "(ILProxyVotes$Item;)Z"⟩, prog_2_method_6_code, 3, some .boolean, 0, 0, 0, 0)
def m_C_holderFor : kM := (⟨"ProxyVotes$Committee", "holderFor", "(ILProxyVotes$Item;)I"⟩, prog_2_method_8_code, 3, some .int, 0, 0, 0, 0)
def m_H_endOfWay : kM := (⟨"ProxyVotes$Hearing", "endOfWay", "(LProxyVotes$Committee;LProxyVotes$Item;I)I"⟩, prog_3_method_4_code, 7, some .int, 1, 0, 0, 22)
def m_H_takenUp : kM := (⟨"ProxyVotes$Hearing", "takenUp", "(LProxyVotes$Committee;LProxyVotes$Item;I)I"⟩, prog_3_method_3_code, 5, some .int, 2, 0, 0, 48)
def m_H_listen : kM := (⟨"ProxyVotes$Hearing", "listen", "(LProxyVotes$Committee;LProxyVotes$Item;)V"⟩, prog_3_method_2_code, 4, none, 3, 0, 0, 72)
def m_H_weightThere : kM := (⟨"ProxyVotes$Hearing", "weightThere", "(LProxyVotes$Committee;)I"⟩, prog_3_method_6_code, 4, some .int, 1, 0, 0, 21)
def m_C_isQuorum : kM := (⟨"ProxyVotes$Committee", "isQuorum", "(I)Z"⟩, prog_2_method_10_code, 3, some .boolean, 1, 0, 0, 22)
def m_I_isPending : kM := (⟨"ProxyVotes$Item", "isPending", "()Z"⟩, prog_5_method_4_code, 1, some .boolean, 0, 0, 0, 0)
def m_H_wayOf : kM := (⟨"ProxyVotes$Hearing", "wayOf", "(LProxyVotes$Committee;LProxyVotes$Item;I)I"⟩, prog_3_method_7_code, 5, some .int, 1, 0, 0, 22)
def m_H_tally : kM := (⟨"ProxyVotes$Hearing", "tally", "(LProxyVotes$Committee;LProxyVotes$Item;)V"⟩, prog_3_method_8_code, 4, none, 2, 0, 0, 46)
def m_P_sumOf : kM := (⟨"ProxyVotes", "sumOf", "(LProxyVotes$Item;I)I"⟩, prog_1_method_21_code, 3, some .int, 4, 0, 0, 95)
def m_P_ofItem : kM := (⟨"ProxyVotes", "ofItem", "(II)I"⟩, prog_1_method_18_code, 4, some .int, 5, 0, 0, 117)
def m_L_has : kM := (⟨"ProxyVotesLaw", "has", "(II)Z"⟩, method_3_code, 2, some .boolean, 0, 0, 0, 0)
def m_H_spokenForBy : kM := (⟨"ProxyVotes$Hearing", "spokenForBy", "(LProxyVotes$Committee;I)I"⟩, prog_3_method_5_code, 5, some .int, 1, 0, 0, 21)
def m_P_at : kM := (⟨"ProxyVotes", "at", "(III)I"⟩, prog_1_method_19_code, 5, some .int, 4, 0, 0, 95)
def m_L_holder : kM := (⟨"ProxyVotesLaw", "holder", "(LProxyVotes;II)I"⟩, method_5_code, 4, some .int, 5, 0, 0, 119)
def m_L_end : kM := (⟨"ProxyVotesLaw", "end", "(LProxyVotes;II)I"⟩, method_6_code, 6, some .int, 6, 0, 0, 142)
def m_L_areVoices : kM := (⟨"ProxyVotesLaw", "areVoices", "(LProxyVotes;I[I)Z"⟩, method_7_code, 8, some .boolean, 7, 2, 24, 167)
def m_L_sums : kM := (⟨"ProxyVotesLaw", "sums", "(LProxyVotes;I[I[I)V"⟩, method_8_code, 7, none, 5, 0, 0, 119)
def m_L_there : kM := (⟨"ProxyVotesLaw", "there", "(LProxyVotes;[I)I"⟩, method_10_code, 4, some .int, 3, 0, 0, 63)
def m_L_isQuorum : kM := (⟨"ProxyVotesLaw", "isQuorum", "(LProxyVotes;I)Z"⟩, method_11_code, 2, some .boolean, 3, 0, 0, 63)
def m_H_outcome : kM := (⟨"ProxyVotes$Hearing", "outcome", "(LProxyVotes$Committee;LProxyVotes$Item;I)I"⟩, prog_3_method_9_code, 6, some .int, 0, 0, 0, 0)
def m_P_wouldBe : kM := (⟨"ProxyVotes", "wouldBe", "(I)I"⟩, prog_1_method_22_code, 3, some .int, 4, 0, 0, 95)
def m_L_outcome : kM := (⟨"ProxyVotesLaw", "outcome", "(LProxyVotes;I[I)I"⟩, method_9_code, 6, some .int, 6, 0, 0, 140)
def m_L_isItem : kM := (⟨"ProxyVotesLaw", "isItem", "(LProxyVotes;I)Z"⟩, method_12_code, 6, some .boolean, 8, 4, 42, 194)
def m_JI_bitCount : kM := (⟨"java/lang/Integer", "bitCount", "(I)I"⟩, prog_10_method_49_code, 1, some .int, 0, 0, 0, 0)
def m_C_bringIn : kM := (⟨"ProxyVotes$Committee", "bringIn", "(I)I"⟩, prog_2_method_20_code, 2, some .int, 1, 0, 0, 21)
def m_P_come : kM := (⟨"ProxyVotes", "come", "(I)I"⟩, prog_1_method_6_code, 2, some .int, 4, 0, 0, 96)
def m_C_sendAway : kM := (⟨"ProxyVotes$Committee", "sendAway", "(I)I"⟩, prog_2_method_21_code, 2, some .int, 1, 0, 0, 21)
def m_P_go : kM := (⟨"ProxyVotes", "go", "(I)I"⟩, prog_1_method_7_code, 2, some .int, 4, 0, 0, 96)
def m_L_ones : kM := (⟨"ProxyVotesLaw", "ones", "(I)I"⟩, method_4_code, 3, some .int, 0, 0, 0, 0)
def m_L_isTurned : kM := (⟨"ProxyVotesLaw", "isTurned", "(LProxyVotes;II)Z"⟩, method_17_code, 9, some .boolean, 5, 0, 0, 117)
def m_C_nameHolder : kM := (⟨"ProxyVotes$Committee", "nameHolder", "(III)I"⟩, prog_2_method_23_code, 9, some .int, 1, 0, 0, 21)
def m_P_proxy : kM := (⟨"ProxyVotes", "proxy", "(III)I"⟩, prog_1_method_9_code, 4, some .int, 4, 0, 0, 96)
def m_L_isNamed : kM := (⟨"ProxyVotesLaw", "isNamed", "(LProxyVotes;III)Z"⟩, method_18_code, 6, some .boolean, 5, 0, 0, 119)
def m_P_isChoice : kM := (⟨"ProxyVotes", "isChoice", "(I)Z"⟩, prog_1_method_42_code, 1, some .boolean, 0, 0, 0, 0)
def m_C_tellChoice : kM := (⟨"ProxyVotes$Committee", "tellChoice", "(III)I"⟩, prog_2_method_24_code, 5, some .int, 1, 0, 0, 21)
def m_P_tell : kM := (⟨"ProxyVotes", "tell", "(III)I"⟩, prog_1_method_10_code, 4, some .int, 4, 0, 0, 96)
def m_L_isTold : kM := (⟨"ProxyVotesLaw", "isTold", "(LProxyVotes;III)Z"⟩, method_19_code, 6, some .boolean, 6, 0, 0, 140)
def m_C_recuseByHand : kM := (⟨"ProxyVotes$Committee", "recuseByHand", "(III)I"⟩, prog_2_method_25_code, 5, some .int, 1, 0, 0, 22)
def m_P_recuse : kM := (⟨"ProxyVotes", "recuse", "(III)I"⟩, prog_1_method_11_code, 4, some .int, 4, 0, 0, 96)
def m_L_isRecused : kM := (⟨"ProxyVotesLaw", "isRecused", "(LProxyVotes;III)Z"⟩, method_20_code, 7, some .boolean, 6, 0, 0, 140)
def m_C_openItem : kM := (⟨"ProxyVotes$Committee", "openItem", "(ILProxyVotes$Hearing;)I"⟩, prog_2_method_26_code, 5, some .int, 4, 0, 0, 95)
def m_P_open : kM := (⟨"ProxyVotes", "open", "(I)I"⟩, prog_1_method_12_code, 2, some .int, 5, 0, 0, 119)
def m_L_isOpened : kM := (⟨"ProxyVotesLaw", "isOpened", "(LProxyVotes;I)Z"⟩, method_13_code, 6, some .boolean, 8, 3, 36, 194)
def m_C_canVote : kM := (⟨"ProxyVotes$Committee", "canVote", "(ILProxyVotes$Item;)Z"⟩, prog_2_method_7_code, 3, some .boolean, 1, 0, 0, 22)
def m_C_giveVote : kM := (⟨"ProxyVotes$Committee", "giveVote", "(II)I"⟩, prog_2_method_27_code, 5, some .int, 2, 0, 0, 44)
def m_P_vote : kM := (⟨"ProxyVotes", "vote", "(II)I"⟩, prog_1_method_13_code, 3, some .int, 4, 0, 0, 96)
def m_L_isVoted : kM := (⟨"ProxyVotesLaw", "isVoted", "(LProxyVotes;II)Z"⟩, method_14_code, 8, some .boolean, 5, 0, 0, 119)
def m_I_putOff : kM := (⟨"ProxyVotes$Item", "putOff", "()V"⟩, prog_5_method_5_code, 1, none, 1, 0, 0, 23)
def m_C_closeItem : kM := (⟨"ProxyVotes$Committee", "closeItem", "(LProxyVotes$Hearing;)I"⟩, prog_2_method_28_code, 4, some .int, 4, 0, 0, 95)
def m_P_close : kM := (⟨"ProxyVotes", "close", "()I"⟩, prog_1_method_14_code, 1, some .int, 5, 0, 0, 118)
def m_L_isClosed : kM := (⟨"ProxyVotesLaw", "isClosed", "(LProxyVotes;)Z"⟩, method_15_code, 8, some .boolean, 8, 4, 42, 194)
def m_C_breakTie : kM := (⟨"ProxyVotes$Committee", "breakTie", "(I)I"⟩, prog_2_method_29_code, 4, some .int, 2, 0, 0, 42)
def m_P_cast : kM := (⟨"ProxyVotes", "cast", "(I)I"⟩, prog_1_method_15_code, 2, some .int, 4, 0, 0, 96)
def m_L_isCast : kM := (⟨"ProxyVotesLaw", "isCast", "(LProxyVotes;I)Z"⟩, method_16_code, 7, some .boolean, 6, 0, 0, 140)
def m_V_append : kM := (⟨"ProxyVotes$Movements", "append", "(III)V"⟩, prog_6_method_2_code, 4, none, 0, 0, 0, 0)
def m_C_addMovement : kM := (⟨"ProxyVotes$Committee", "addMovement", "(III)I"⟩, prog_2_method_22_code, 4, some .int, 1, 0, 0, 23)
def m_P_later : kM := (⟨"ProxyVotes", "later", "(III)I"⟩, prog_1_method_8_code, 4, some .int, 4, 0, 0, 96)
def m_V_next : kM := (⟨"ProxyVotes$Movements", "next", "()I"⟩, prog_6_method_3_code, 3, some .int, 0, 0, 0, 0)
def m_V_drop : kM := (⟨"ProxyVotes$Movements", "drop", "(I)V"⟩, prog_6_method_4_code, 3, none, 1, 0, 0, 32)
def m_C_moveTo : kM := (⟨"ProxyVotes$Committee", "moveTo", "(I)V"⟩, prog_2_method_31_code, 5, none, 2, 0, 0, 54)
def m_C_letPass : kM := (⟨"ProxyVotes$Committee", "letPass", "(I)I"⟩, prog_2_method_30_code, 2, some .int, 3, 0, 0, 78)
def m_P_pass : kM := (⟨"ProxyVotes", "pass", "(I)I"⟩, prog_1_method_16_code, 2, some .int, 4, 0, 0, 99)
def m_L_isPassed : kM := (⟨"ProxyVotesLaw", "isPassed", "(LProxyVotes;I)Z"⟩, method_22_code, 5, some .boolean, 5, 0, 0, 120)
def m_L_isAct : kM := (⟨"ProxyVotesLaw", "isAct", "(LProxyVotes;[II)Z"⟩, method_21_code, 7, some .boolean, 9, 4, 42, 221)
def m_L_law : kM := (⟨"ProxyVotesLaw", "law", "([I)Z"⟩, code, 5, some .boolean, 12, 600000, 7302250, 494)
theorem pn_C : plainName "ProxyVotes$Committee" = true := by decide +kernel
theorem pn_H : plainName "ProxyVotes$Hearing" = true := by decide +kernel
theorem pn_Y : plainName "ProxyVotes$History" = true := by decide +kernel
theorem pn_I : plainName "ProxyVotes$Item" = true := by decide +kernel
theorem pn_V : plainName "ProxyVotes$Movements" = true := by decide +kernel
theorem pn_D : plainName "ProxyVotes$Pad" = true := by decide +kernel
theorem pn_P : plainName "ProxyVotes" = true := by decide +kernel
theorem pn_L : plainName "ProxyVotesLaw" = true := by decide +kernel
theorem pn_JI : plainName "java/lang/Integer" = true := by decide +kernel
theorem pf_JM_min : plainFor (kY m_JM_min) = true := by decide +kernel
theorem pn_JA : plainName "java/util/Arrays" = true := by decide +kernel
theorem kb_m6 : (Int8.ofInt (-6)).toInt32 = (-6) := by decide
theorem kb_m5 : (Int8.ofInt (-5)).toInt32 = (-5) := by decide
theorem kb_m4 : (Int8.ofInt (-4)).toInt32 = (-4) := by decide
theorem kb_m2 : (Int8.ofInt (-2)).toInt32 = (-2) := by decide
theorem kb_6 : (Int8.ofInt 6).toInt32 = 6 := by decide
theorem kb_7 : (Int8.ofInt 7).toInt32 = 7 := by decide
theorem kb_8 : (Int8.ofInt 8).toInt32 = 8 := by decide
theorem kb_9 : (Int8.ofInt 9).toInt32 = 9 := by decide
theorem kb_10 : (Int8.ofInt 10).toInt32 = 10 := by decide
theorem kb_11 : (Int8.ofInt 11).toInt32 = 11 := by decide
theorem kb_12 : (Int8.ofInt 12).toInt32 = 12 := by decide
theorem kb_13 : (Int8.ofInt 13).toInt32 = 13 := by decide
theorem kb_15 : (Int8.ofInt 15).toInt32 = 15 := by decide
theorem kb_16 : (Int8.ofInt 16).toInt32 = 16 := by decide
theorem kb_17 : (Int8.ofInt 17).toInt32 = 17 := by decide
theorem kb_18 : (Int8.ofInt 18).toInt32 = 18 := by decide
theorem kb_19 : (Int8.ofInt 19).toInt32 = 19 := by decide
theorem kb_20 : (Int8.ofInt 20).toInt32 = 20 := by decide
theorem kb_21 : (Int8.ofInt 21).toInt32 = 21 := by decide
theorem kb_22 : (Int8.ofInt 22).toInt32 = 22 := by decide
theorem kb_31 : (Int8.ofInt 31).toInt32 = 31 := by decide
theorem kb_35 : (Int8.ofInt 35).toInt32 = 35 := by decide
theorem kb_37 : (Int8.ofInt 37).toInt32 = 37 := by decide
theorem kb_39 : (Int8.ofInt 39).toInt32 = 39 := by decide
theorem kb_43 : (Int8.ofInt 43).toInt32 = 43 := by decide
theorem kb_44 : (Int8.ofInt 44).toInt32 = 44 := by decide
theorem kb_50 : (Int8.ofInt 50).toInt32 = 50 := by decide
theorem kb_56 : (Int8.ofInt 56).toInt32 = 56 := by decide
theorem kb_60 : (Int8.ofInt 60).toInt32 = 60 := by decide
theorem kb_63 : (Int8.ofInt 63).toInt32 = 63 := by decide
theorem kb_70 : (Int8.ofInt 70).toInt32 = 70 := by decide
theorem kb_80 : (Int8.ofInt 80).toInt32 = 80 := by decide
theorem kb_100 : (Int8.ofInt 100).toInt32 = 100 := by decide
theorem kb_109 : (Int8.ofInt 109).toInt32 = 109 := by decide
theorem ki_m1 : Int32.ofInt (-1) = (-1) := by decide
theorem ki_0 : Int32.ofInt 0 = 0 := by decide
theorem ki_1 : Int32.ofInt 1 = 1 := by decide
theorem ki_2 : Int32.ofInt 2 = 2 := by decide
theorem ki_3 : Int32.ofInt 3 = 3 := by decide
theorem ki_4 : Int32.ofInt 4 = 4 := by decide
theorem ki_5 : Int32.ofInt 5 = 5 := by decide
theorem ks_200 : (Int16.ofInt 200).toInt32 = 200 := by decide
theorem ks_600 : (Int16.ofInt 600).toInt32 = 600 := by decide
theorem ks_9000 : (Int16.ofInt 9000).toInt32 = 9000 := by decide
theorem w_0 : Cond.selects "ProxyVotes$History" ⟨"ProxyVotes$History", "note", "(LProxyVotes$Committee;)V"⟩ ⟨"ProxyVotes$History", "note", "(LProxyVotes$Committee;)V"⟩ ∈ kWG := List.mem_filter.mpr ⟨List.mem_of_getElem? (i := 0) (by decide +kernel), rfl⟩
theorem w_1 : Cond.selects "ProxyVotes$Committee" ⟨"ProxyVotes$Committee", "copyFrom", "(LProxyVotes$Committee;)V"⟩ ⟨"ProxyVotes$Committee", "copyFrom", "(LProxyVotes$Committee;)V"⟩ ∈ kWG := List.mem_filter.mpr ⟨List.mem_of_getElem? (i := 1) (by decide +kernel), rfl⟩
theorem w_2 : Cond.selects "ProxyVotes$Item" ⟨"ProxyVotes$Item", "copyFrom", "(LProxyVotes$Item;)V"⟩ ⟨"ProxyVotes$Item", "copyFrom", "(LProxyVotes$Item;)V"⟩ ∈ kWG := List.mem_filter.mpr ⟨List.mem_of_getElem? (i := 2) (by decide +kernel), rfl⟩
theorem w_3 : Cond.selects "ProxyVotes$Movements" ⟨"ProxyVotes$Movements", "copyFrom", "(LProxyVotes$Movements;)V"⟩ ⟨"ProxyVotes$Movements", "copyFrom", "(LProxyVotes$Movements;)V"⟩ ∈ kWG := List.mem_filter.mpr ⟨List.mem_of_getElem? (i := 3) (by decide +kernel), rfl⟩
theorem w_4 : Cond.selects "ProxyVotes$Committee" ⟨"ProxyVotes$Committee", "changeSetting", "(II)I"⟩ ⟨"ProxyVotes$Committee", "changeSetting", "(II)I"⟩ ∈ kWG := List.mem_filter.mpr ⟨List.mem_of_getElem? (i := 4) (by decide +kernel), rfl⟩
theorem w_5 : Cond.selects "ProxyVotes$History" ⟨"ProxyVotes$History", "settle", "(I)I"⟩ ⟨"ProxyVotes$History", "settle", "(I)I"⟩ ∈ kWG := List.mem_filter.mpr ⟨List.mem_of_getElem? (i := 5) (by decide +kernel), rfl⟩
theorem w_6 : Cond.selects "ProxyVotes$Committee" ⟨"ProxyVotes$Committee", "addMember", "(II)I"⟩ ⟨"ProxyVotes$Committee", "addMember", "(II)I"⟩ ∈ kWG := List.mem_filter.mpr ⟨List.mem_of_getElem? (i := 6) (by decide +kernel), rfl⟩
theorem w_7 : Cond.selects "ProxyVotes$Committee" ⟨"ProxyVotes$Committee", "addItem", "(II)I"⟩ ⟨"ProxyVotes$Committee", "addItem", "(II)I"⟩ ∈ kWG := List.mem_filter.mpr ⟨List.mem_of_getElem? (i := 7) (by decide +kernel), rfl⟩
theorem w_8 : Cond.selects "ProxyVotes$Item" ⟨"ProxyVotes$Item", "begin", "(II)V"⟩ ⟨"ProxyVotes$Item", "begin", "(II)V"⟩ ∈ kWG := List.mem_filter.mpr ⟨List.mem_of_getElem? (i := 8) (by decide +kernel), rfl⟩
theorem w_9 : Cond.selects "ProxyVotes$Committee" ⟨"ProxyVotes$Committee", "nameChair", "(I)I"⟩ ⟨"ProxyVotes$Committee", "nameChair", "(I)I"⟩ ∈ kWG := List.mem_filter.mpr ⟨List.mem_of_getElem? (i := 9) (by decide +kernel), rfl⟩
theorem w_10 : Cond.selects "ProxyVotes$Committee" ⟨"ProxyVotes$Committee", "hasMember", "(I)Z"⟩ ⟨"ProxyVotes$Committee", "hasMember", "(I)Z"⟩ ∈ kWG := List.mem_filter.mpr ⟨List.mem_of_getElem? (i := 10) (by decide +kernel), rfl⟩
theorem w_11 : Cond.selects "ProxyVotes$Committee" ⟨"ProxyVotes$Committee", "isPresent", "(I)Z"⟩ ⟨"ProxyVotes$Committee", "isPresent", "(I)Z"⟩ ∈ kWG := List.mem_filter.mpr ⟨List.mem_of_getElem? (i := 11) (by decide +kernel), rfl⟩
theorem w_12 : Cond.selects "ProxyVotes$Committee" ⟨"ProxyVotes$Committee", "votesOf", "(I)I"⟩ ⟨"ProxyVotes$Committee", "votesOf", "(I)I"⟩ ∈ kWG := List.mem_filter.mpr ⟨List.mem_of_getElem? (i := 12) (by decide +kernel), rfl⟩
theorem w_13 : Cond.selects "ProxyVotes$Committee" ⟨"ProxyVotes$Committee", "tiesBrokenBy", "(I)I"⟩ ⟨"ProxyVotes$Committee", "tiesBrokenBy", "(I)I"⟩ ∈ kWG := List.mem_filter.mpr ⟨List.mem_of_getElem? (i := 13) (by decide +kernel), rfl⟩
theorem w_14 : Cond.selects "ProxyVotes$Committee" ⟨"ProxyVotes$Committee", "itemsIn", "(I)I"⟩ ⟨"ProxyVotes$Committee", "itemsIn", "(I)I"⟩ ∈ kWG := List.mem_filter.mpr ⟨List.mem_of_getElem? (i := 14) (by decide +kernel), rfl⟩
theorem w_15 : Cond.selects "ProxyVotes$Committee" ⟨"ProxyVotes$Committee", "firstIn", "(I)I"⟩ ⟨"ProxyVotes$Committee", "firstIn", "(I)I"⟩ ∈ kWG := List.mem_filter.mpr ⟨List.mem_of_getElem? (i := 15) (by decide +kernel), rfl⟩
theorem w_16 : Cond.selects "ProxyVotes$Committee" ⟨"ProxyVotes$Committee", "chairOfTheMoment", "()I"⟩ ⟨"ProxyVotes$Committee", "chairOfTheMoment", "()I"⟩ ∈ kWG := List.mem_filter.mpr ⟨List.mem_of_getElem? (i := 16) (by decide +kernel), rfl⟩
theorem w_17 : Cond.selects "ProxyVotes$Committee" ⟨"ProxyVotes$Committee", "weightOfAll", "()I"⟩ ⟨"ProxyVotes$Committee", "weightOfAll", "()I"⟩ ∈ kWG := List.mem_filter.mpr ⟨List.mem_of_getElem? (i := 17) (by decide +kernel), rfl⟩
theorem w_18 : Cond.selects "ProxyVotes$Committee" ⟨"ProxyVotes$Committee", "hasItem", "(I)Z"⟩ ⟨"ProxyVotes$Committee", "hasItem", "(I)Z"⟩ ∈ kWG := List.mem_filter.mpr ⟨List.mem_of_getElem? (i := 18) (by decide +kernel), rfl⟩
theorem w_19 : Cond.selects "ProxyVotes$Hearing" ⟨"ProxyVotes$Hearing", "listen", "(LProxyVotes$Committee;LProxyVotes$Item;)V"⟩ ⟨"ProxyVotes$Hearing", "listen", "(LProxyVotes$Committee;LProxyVotes$Item;)V"⟩ ∈ kWG := List.mem_filter.mpr ⟨List.mem_of_getElem? (i := 19) (by decide +kernel), rfl⟩
theorem w_20 : Cond.selects "ProxyVotes$Committee" ⟨"ProxyVotes$Committee", "isRecused", "(ILProxyVotes$Item;)Z"⟩ ⟨"ProxyVotes$Committee", "isRecused", "(ILProxyVotes$Item;)Z"⟩ ∈ kWG := List.mem_filter.mpr ⟨List.mem_of_getElem? (i := 20) (by decide +kernel), rfl⟩
theorem w_21 : Cond.selects "ProxyVotes$Hearing" ⟨"ProxyVotes$Hearing", "takenUp", "(LProxyVotes$Committee;LProxyVotes$Item;I)I"⟩ ⟨"ProxyVotes$Hearing", "takenUp", "(LProxyVotes$Committee;LProxyVotes$Item;I)I"⟩ ∈ kWG := List.mem_filter.mpr ⟨List.mem_of_getElem? (i := 21) (by decide +kernel), rfl⟩
theorem w_22 : Cond.selects "ProxyVotes$Hearing" ⟨"ProxyVotes$Hearing", "endOfWay", "(LProxyVotes$Committee;LProxyVotes$Item;I)I"⟩ ⟨"ProxyVotes$Hearing", "endOfWay", "(LProxyVotes$Committee;LProxyVotes$Item;I)I"⟩ ∈ kWG := List.mem_filter.mpr ⟨List.mem_of_getElem? (i := 22) (by decide +kernel), rfl⟩
theorem w_23 : Cond.selects "ProxyVotes$Committee" ⟨"ProxyVotes$Committee", "holderFor", "(ILProxyVotes$Item;)I"⟩ ⟨"ProxyVotes$Committee", "holderFor", "(ILProxyVotes$Item;)I"⟩ ∈ kWG := List.mem_filter.mpr ⟨List.mem_of_getElem? (i := 23) (by decide +kernel), rfl⟩
theorem w_24 : Cond.selects "ProxyVotes$Hearing" ⟨"ProxyVotes$Hearing", "weightThere", "(LProxyVotes$Committee;)I"⟩ ⟨"ProxyVotes$Hearing", "weightThere", "(LProxyVotes$Committee;)I"⟩ ∈ kWG := List.mem_filter.mpr ⟨List.mem_of_getElem? (i := 24) (by decide +kernel), rfl⟩
theorem w_25 : Cond.selects "ProxyVotes$Committee" ⟨"ProxyVotes$Committee", "isQuorum", "(I)Z"⟩ ⟨"ProxyVotes$Committee", "isQuorum", "(I)Z"⟩ ∈ kWG := List.mem_filter.mpr ⟨List.mem_of_getElem? (i := 25) (by decide +kernel), rfl⟩
theorem w_26 : Cond.selects "ProxyVotes" ⟨"ProxyVotes", "sumOf", "(LProxyVotes$Item;I)I"⟩ ⟨"ProxyVotes", "sumOf", "(LProxyVotes$Item;I)I"⟩ ∈ kWG := List.mem_filter.mpr ⟨List.mem_of_getElem? (i := 26) (by decide +kernel), rfl⟩
theorem w_27 : Cond.selects "ProxyVotes$Item" ⟨"ProxyVotes$Item", "isPending", "()Z"⟩ ⟨"ProxyVotes$Item", "isPending", "()Z"⟩ ∈ kWG := List.mem_filter.mpr ⟨List.mem_of_getElem? (i := 27) (by decide +kernel), rfl⟩
theorem w_28 : Cond.selects "ProxyVotes$Hearing" ⟨"ProxyVotes$Hearing", "tally", "(LProxyVotes$Committee;LProxyVotes$Item;)V"⟩ ⟨"ProxyVotes$Hearing", "tally", "(LProxyVotes$Committee;LProxyVotes$Item;)V"⟩ ∈ kWG := List.mem_filter.mpr ⟨List.mem_of_getElem? (i := 28) (by decide +kernel), rfl⟩
theorem w_29 : Cond.selects "ProxyVotes$Hearing" ⟨"ProxyVotes$Hearing", "wayOf", "(LProxyVotes$Committee;LProxyVotes$Item;I)I"⟩ ⟨"ProxyVotes$Hearing", "wayOf", "(LProxyVotes$Committee;LProxyVotes$Item;I)I"⟩ ∈ kWG := List.mem_filter.mpr ⟨List.mem_of_getElem? (i := 29) (by decide +kernel), rfl⟩
theorem w_30 : Cond.selects "ProxyVotes$Hearing" ⟨"ProxyVotes$Hearing", "spokenForBy", "(LProxyVotes$Committee;I)I"⟩ ⟨"ProxyVotes$Hearing", "spokenForBy", "(LProxyVotes$Committee;I)I"⟩ ∈ kWG := List.mem_filter.mpr ⟨List.mem_of_getElem? (i := 30) (by decide +kernel), rfl⟩
theorem w_31 : Cond.selects "ProxyVotes$Hearing" ⟨"ProxyVotes$Hearing", "outcome", "(LProxyVotes$Committee;LProxyVotes$Item;I)I"⟩ ⟨"ProxyVotes$Hearing", "outcome", "(LProxyVotes$Committee;LProxyVotes$Item;I)I"⟩ ∈ kWG := List.mem_filter.mpr ⟨List.mem_of_getElem? (i := 31) (by decide +kernel), rfl⟩
theorem w_32 : Cond.selects "ProxyVotes$Committee" ⟨"ProxyVotes$Committee", "bringIn", "(I)I"⟩ ⟨"ProxyVotes$Committee", "bringIn", "(I)I"⟩ ∈ kWG := List.mem_filter.mpr ⟨List.mem_of_getElem? (i := 32) (by decide +kernel), rfl⟩
theorem w_33 : Cond.selects "ProxyVotes$Committee" ⟨"ProxyVotes$Committee", "sendAway", "(I)I"⟩ ⟨"ProxyVotes$Committee", "sendAway", "(I)I"⟩ ∈ kWG := List.mem_filter.mpr ⟨List.mem_of_getElem? (i := 33) (by decide +kernel), rfl⟩
theorem w_34 : Cond.selects "ProxyVotes$Committee" ⟨"ProxyVotes$Committee", "nameHolder", "(III)I"⟩ ⟨"ProxyVotes$Committee", "nameHolder", "(III)I"⟩ ∈ kWG := List.mem_filter.mpr ⟨List.mem_of_getElem? (i := 34) (by decide +kernel), rfl⟩
theorem w_35 : Cond.selects "ProxyVotes$Committee" ⟨"ProxyVotes$Committee", "tellChoice", "(III)I"⟩ ⟨"ProxyVotes$Committee", "tellChoice", "(III)I"⟩ ∈ kWG := List.mem_filter.mpr ⟨List.mem_of_getElem? (i := 35) (by decide +kernel), rfl⟩
theorem w_36 : Cond.selects "ProxyVotes$Committee" ⟨"ProxyVotes$Committee", "recuseByHand", "(III)I"⟩ ⟨"ProxyVotes$Committee", "recuseByHand", "(III)I"⟩ ∈ kWG := List.mem_filter.mpr ⟨List.mem_of_getElem? (i := 36) (by decide +kernel), rfl⟩
theorem w_37 : Cond.selects "ProxyVotes$Committee" ⟨"ProxyVotes$Committee", "openItem", "(ILProxyVotes$Hearing;)I"⟩ ⟨"ProxyVotes$Committee", "openItem", "(ILProxyVotes$Hearing;)I"⟩ ∈ kWG := List.mem_filter.mpr ⟨List.mem_of_getElem? (i := 37) (by decide +kernel), rfl⟩
theorem w_38 : Cond.selects "ProxyVotes$Committee" ⟨"ProxyVotes$Committee", "giveVote", "(II)I"⟩ ⟨"ProxyVotes$Committee", "giveVote", "(II)I"⟩ ∈ kWG := List.mem_filter.mpr ⟨List.mem_of_getElem? (i := 38) (by decide +kernel), rfl⟩
theorem w_39 : Cond.selects "ProxyVotes$Committee" ⟨"ProxyVotes$Committee", "canVote", "(ILProxyVotes$Item;)Z"⟩ ⟨"ProxyVotes$Committee", "canVote", "(ILProxyVotes$Item;)Z"⟩ ∈ kWG := List.mem_filter.mpr ⟨List.mem_of_getElem? (i := 39) (by decide +kernel), rfl⟩
theorem w_40 : Cond.selects "ProxyVotes$Committee" ⟨"ProxyVotes$Committee", "closeItem", "(LProxyVotes$Hearing;)I"⟩ ⟨"ProxyVotes$Committee", "closeItem", "(LProxyVotes$Hearing;)I"⟩ ∈ kWG := List.mem_filter.mpr ⟨List.mem_of_getElem? (i := 40) (by decide +kernel), rfl⟩
theorem w_41 : Cond.selects "ProxyVotes$Item" ⟨"ProxyVotes$Item", "putOff", "()V"⟩ ⟨"ProxyVotes$Item", "putOff", "()V"⟩ ∈ kWG := List.mem_filter.mpr ⟨List.mem_of_getElem? (i := 41) (by decide +kernel), rfl⟩
theorem w_42 : Cond.selects "ProxyVotes$Committee" ⟨"ProxyVotes$Committee", "breakTie", "(I)I"⟩ ⟨"ProxyVotes$Committee", "breakTie", "(I)I"⟩ ∈ kWG := List.mem_filter.mpr ⟨List.mem_of_getElem? (i := 42) (by decide +kernel), rfl⟩
theorem w_43 : Cond.selects "ProxyVotes$Committee" ⟨"ProxyVotes$Committee", "addMovement", "(III)I"⟩ ⟨"ProxyVotes$Committee", "addMovement", "(III)I"⟩ ∈ kWG := List.mem_filter.mpr ⟨List.mem_of_getElem? (i := 43) (by decide +kernel), rfl⟩
theorem w_44 : Cond.selects "ProxyVotes$Movements" ⟨"ProxyVotes$Movements", "append", "(III)V"⟩ ⟨"ProxyVotes$Movements", "append", "(III)V"⟩ ∈ kWG := List.mem_filter.mpr ⟨List.mem_of_getElem? (i := 44) (by decide +kernel), rfl⟩
theorem w_45 : Cond.selects "ProxyVotes$Committee" ⟨"ProxyVotes$Committee", "letPass", "(I)I"⟩ ⟨"ProxyVotes$Committee", "letPass", "(I)I"⟩ ∈ kWG := List.mem_filter.mpr ⟨List.mem_of_getElem? (i := 45) (by decide +kernel), rfl⟩
theorem w_46 : Cond.selects "ProxyVotes$Committee" ⟨"ProxyVotes$Committee", "moveTo", "(I)V"⟩ ⟨"ProxyVotes$Committee", "moveTo", "(I)V"⟩ ∈ kWG := List.mem_filter.mpr ⟨List.mem_of_getElem? (i := 46) (by decide +kernel), rfl⟩
theorem w_47 : Cond.selects "ProxyVotes$Movements" ⟨"ProxyVotes$Movements", "next", "()I"⟩ ⟨"ProxyVotes$Movements", "next", "()I"⟩ ∈ kWG := List.mem_filter.mpr ⟨List.mem_of_getElem? (i := 47) (by decide +kernel), rfl⟩
theorem w_48 : Cond.selects "ProxyVotes$Movements" ⟨"ProxyVotes$Movements", "drop", "(I)V"⟩ ⟨"ProxyVotes$Movements", "drop", "(I)V"⟩ ∈ kWG := List.mem_filter.mpr ⟨List.mem_of_getElem? (i := 48) (by decide +kernel), rfl⟩
theorem w_49 : Cond.initialized "ProxyVotesLaw" ∈ kWG := List.mem_filter.mpr ⟨List.mem_of_getElem? (i := 49) (by decide +kernel), rfl⟩
theorem w_50 : Cond.initialized "ProxyVotes" ∈ kWG := List.mem_filter.mpr ⟨List.mem_of_getElem? (i := 50) (by decide +kernel), rfl⟩
theorem w_51 : Cond.initialized "ProxyVotes$Committee" ∈ kWG := List.mem_filter.mpr ⟨List.mem_of_getElem? (i := 51) (by decide +kernel), rfl⟩
theorem w_52 : Cond.initialized "ProxyVotes$Movements" ∈ kWG := List.mem_filter.mpr ⟨List.mem_of_getElem? (i := 52) (by decide +kernel), rfl⟩
theorem w_53 : Cond.initialized "java/lang/System" ∈ kWG := List.mem_filter.mpr ⟨List.mem_of_getElem? (i := 53) (by decide +kernel), rfl⟩
theorem w_54 : Cond.initialized "ProxyVotes$Item" ∈ kWG := List.mem_filter.mpr ⟨List.mem_of_getElem? (i := 54) (by decide +kernel), rfl⟩
theorem w_55 : Cond.initialized "ProxyVotes$Hearing" ∈ kWG := List.mem_filter.mpr ⟨List.mem_of_getElem? (i := 55) (by decide +kernel), rfl⟩
theorem w_56 : Cond.initialized "ProxyVotes$History" ∈ kWG := List.mem_filter.mpr ⟨List.mem_of_getElem? (i := 56) (by decide +kernel), rfl⟩
theorem w_57 : Cond.initialized "ProxyVotes$Pad" ∈ kWG := List.mem_filter.mpr ⟨List.mem_of_getElem? (i := 57) (by decide +kernel), rfl⟩
theorem w_58 : Cond.initialized "java/lang/Math" ∈ kWG := List.mem_filter.mpr ⟨List.mem_of_getElem? (i := 58) (by decide +kernel), rfl⟩
theorem w_59 : Cond.initialized "java/util/Arrays" ∈ kWG := List.mem_filter.mpr ⟨List.mem_of_getElem? (i := 59) (by decide +kernel), rfl⟩
theorem w_60 : Cond.initialized "java/lang/Integer" ∈ kWG := List.mem_filter.mpr ⟨List.mem_of_getElem? (i := 60) (by decide +kernel), rfl⟩
theorem w_61 : Cond.classLink "ProxyVotesLaw" 9 "ProxyVotes" ∈ kWG := List.mem_filter.mpr ⟨List.mem_of_getElem? (i := 61) (by decide +kernel), rfl⟩
theorem w_62 : Cond.instantiable "ProxyVotes" 9 ∈ kWG := List.mem_filter.mpr ⟨List.mem_of_getElem? (i := 62) (by decide +kernel), rfl⟩
theorem w_63 : Cond.methodLink "ProxyVotesLaw" 133 ⟨"ProxyVotes", "<init>", "()V"⟩ ∈ kWG := List.mem_filter.mpr ⟨List.mem_of_getElem? (i := 63) (by decide +kernel), rfl⟩
theorem w_64 : Cond.instanceMethod ⟨"ProxyVotes", "<init>", "()V"⟩ ∈ kWG := List.mem_filter.mpr ⟨List.mem_of_getElem? (i := 64) (by decide +kernel), rfl⟩
theorem w_65 : Cond.code ⟨"ProxyVotes", "<init>", "()V"⟩ prog_1_method_1_code 2 none ∈ kWG := List.mem_filter.mpr ⟨List.mem_of_getElem? (i := 65) (by decide +kernel), rfl⟩
theorem w_66 : Cond.methodLink "ProxyVotes" 1 ⟨"java/lang/Object", "<init>", "()V"⟩ ∈ kWG := List.mem_filter.mpr ⟨List.mem_of_getElem? (i := 66) (by decide +kernel), rfl⟩
theorem w_67 : Cond.instanceMethod ⟨"java/lang/Object", "<init>", "()V"⟩ ∈ kWG := List.mem_filter.mpr ⟨List.mem_of_getElem? (i := 67) (by decide +kernel), rfl⟩
theorem w_68 : Cond.code ⟨"java/lang/Object", "<init>", "()V"⟩ object_method_1_code 1 none ∈ kWG := List.mem_filter.mpr ⟨List.mem_of_getElem? (i := 68) (by decide +kernel), rfl⟩
theorem w_69 : Cond.classLink "ProxyVotes" 7 "ProxyVotes$Committee" ∈ kWG := List.mem_filter.mpr ⟨List.mem_of_getElem? (i := 69) (by decide +kernel), rfl⟩
theorem w_70 : Cond.instantiable "ProxyVotes$Committee" 11 ∈ kWG := List.mem_filter.mpr ⟨List.mem_of_getElem? (i := 70) (by decide +kernel), rfl⟩
theorem w_72 : Cond.instanceMethod ⟨"ProxyVotes$Committee", "<init>", "()V"⟩ ∈ kWG := List.mem_filter.mpr ⟨List.mem_of_getElem? (i := 72) (by decide +kernel), rfl⟩
theorem w_73 : Cond.code ⟨"ProxyVotes$Committee", "<init>", "()V"⟩ prog_2_method_1_code 2 none ∈ kWG := List.mem_filter.mpr ⟨List.mem_of_getElem? (i := 73) (by decide +kernel), rfl⟩
theorem w_74 : Cond.methodLink "ProxyVotes$Committee" 3 ⟨"java/lang/Object", "<init>", "()V"⟩ ∈ kWG := List.mem_filter.mpr ⟨List.mem_of_getElem? (i := 74) (by decide +kernel), rfl⟩
theorem w_75 : Cond.classLink "ProxyVotes$Committee" 28 "ProxyVotes$Item" ∈ kWG := List.mem_filter.mpr ⟨List.mem_of_getElem? (i := 75) (by decide +kernel), rfl⟩
theorem w_77 : Cond.classLink "ProxyVotes$Committee" 34 "ProxyVotes$Movements" ∈ kWG := List.mem_filter.mpr ⟨List.mem_of_getElem? (i := 77) (by decide +kernel), rfl⟩
theorem w_78 : Cond.instantiable "ProxyVotes$Movements" 4 ∈ kWG := List.mem_filter.mpr ⟨List.mem_of_getElem? (i := 78) (by decide +kernel), rfl⟩
theorem w_80 : Cond.instanceMethod ⟨"ProxyVotes$Movements", "<init>", "()V"⟩ ∈ kWG := List.mem_filter.mpr ⟨List.mem_of_getElem? (i := 80) (by decide +kernel), rfl⟩
theorem w_81 : Cond.code ⟨"ProxyVotes$Movements", "<init>", "()V"⟩ prog_6_method_1_code 1 none ∈ kWG := List.mem_filter.mpr ⟨List.mem_of_getElem? (i := 81) (by decide +kernel), rfl⟩
theorem w_82 : Cond.methodLink "ProxyVotes$Movements" 3 ⟨"java/lang/Object", "<init>", "()V"⟩ ∈ kWG := List.mem_filter.mpr ⟨List.mem_of_getElem? (i := 82) (by decide +kernel), rfl⟩
theorem w_83 : Cond.fieldLink "ProxyVotes$Movements" 21 "ProxyVotes$Movements" "number" "I" ∈ kWG := List.mem_filter.mpr ⟨List.mem_of_getElem? (i := 83) (by decide +kernel), rfl⟩
theorem w_86 : Cond.fieldLink "ProxyVotes$Movements" 9 "ProxyVotes$Movements" "minutes" "[I" ∈ kWG := List.mem_filter.mpr ⟨List.mem_of_getElem? (i := 86) (by decide +kernel), rfl⟩
theorem w_88 : Cond.fieldLink "ProxyVotes$Movements" 15 "ProxyVotes$Movements" "movers" "[I" ∈ kWG := List.mem_filter.mpr ⟨List.mem_of_getElem? (i := 88) (by decide +kernel), rfl⟩
theorem w_90 : Cond.fieldLink "ProxyVotes$Movements" 18 "ProxyVotes$Movements" "comings" "[I" ∈ kWG := List.mem_filter.mpr ⟨List.mem_of_getElem? (i := 90) (by decide +kernel), rfl⟩
theorem w_92 : Cond.lays "ProxyVotes$Movements" "ProxyVotes$Movements" "number" "I" ∈ kWG := List.mem_filter.mpr ⟨List.mem_of_getElem? (i := 92) (by decide +kernel), rfl⟩
theorem w_94 : Cond.laysFinal "ProxyVotes$Movements" "ProxyVotes$Movements" "minutes" "[I" ∈ kWG := List.mem_filter.mpr ⟨List.mem_of_getElem? (i := 94) (by decide +kernel), rfl⟩
theorem w_96 : Cond.laysFinal "ProxyVotes$Movements" "ProxyVotes$Movements" "movers" "[I" ∈ kWG := List.mem_filter.mpr ⟨List.mem_of_getElem? (i := 96) (by decide +kernel), rfl⟩
theorem w_98 : Cond.laysFinal "ProxyVotes$Movements" "ProxyVotes$Movements" "comings" "[I" ∈ kWG := List.mem_filter.mpr ⟨List.mem_of_getElem? (i := 98) (by decide +kernel), rfl⟩
theorem w_101 : Cond.arrayClass FieldType.int ∈ kWG := List.mem_filter.mpr ⟨List.mem_of_getElem? (i := 101) (by decide +kernel), rfl⟩
theorem w_104 : Cond.methodLink "ProxyVotes$Committee" 44 ⟨"java/lang/System", "arraycopy", "(Ljava/lang/Object;ILjava/lang/Object;II)V"⟩ ∈ kWG := List.mem_filter.mpr ⟨List.mem_of_getElem? (i := 104) (by decide +kernel), rfl⟩
theorem w_105 : Cond.static ⟨"java/lang/System", "arraycopy", "(Ljava/lang/Object;ILjava/lang/Object;II)V"⟩ ∈ kWG := List.mem_filter.mpr ⟨List.mem_of_getElem? (i := 105) (by decide +kernel), rfl⟩
theorem w_106 : Cond.native ⟨"java/lang/System", "arraycopy", "(Ljava/lang/Object;ILjava/lang/Object;II)V"⟩ ∈ kWG := List.mem_filter.mpr ⟨List.mem_of_getElem? (i := 106) (by decide +kernel), rfl⟩
theorem w_107 : Cond.instantiable "ProxyVotes$Item" 10 ∈ kWG := List.mem_filter.mpr ⟨List.mem_of_getElem? (i := 107) (by decide +kernel), rfl⟩
theorem w_109 : Cond.instanceMethod ⟨"ProxyVotes$Item", "<init>", "()V"⟩ ∈ kWG := List.mem_filter.mpr ⟨List.mem_of_getElem? (i := 109) (by decide +kernel), rfl⟩
theorem w_110 : Cond.code ⟨"ProxyVotes$Item", "<init>", "()V"⟩ prog_5_method_1_code 1 none ∈ kWG := List.mem_filter.mpr ⟨List.mem_of_getElem? (i := 110) (by decide +kernel), rfl⟩
theorem w_111 : Cond.methodLink "ProxyVotes$Item" 3 ⟨"java/lang/Object", "<init>", "()V"⟩ ∈ kWG := List.mem_filter.mpr ⟨List.mem_of_getElem? (i := 111) (by decide +kernel), rfl⟩
theorem w_112 : Cond.fieldLink "ProxyVotes$Item" 24 "ProxyVotes$Item" "kind" "I" ∈ kWG := List.mem_filter.mpr ⟨List.mem_of_getElem? (i := 112) (by decide +kernel), rfl⟩
theorem w_115 : Cond.fieldLink "ProxyVotes$Item" 28 "ProxyVotes$Item" "touched" "I" ∈ kWG := List.mem_filter.mpr ⟨List.mem_of_getElem? (i := 115) (by decide +kernel), rfl⟩
theorem w_118 : Cond.fieldLink "ProxyVotes$Item" 31 "ProxyVotes$Item" "state" "I" ∈ kWG := List.mem_filter.mpr ⟨List.mem_of_getElem? (i := 118) (by decide +kernel), rfl⟩
theorem w_121 : Cond.fieldLink "ProxyVotes$Item" 34 "ProxyVotes$Item" "recusedByHand" "I" ∈ kWG := List.mem_filter.mpr ⟨List.mem_of_getElem? (i := 121) (by decide +kernel), rfl⟩
theorem w_123 : Cond.fieldLink "ProxyVotes$Item" 37 "ProxyVotes$Item" "breaker" "I" ∈ kWG := List.mem_filter.mpr ⟨List.mem_of_getElem? (i := 123) (by decide +kernel), rfl⟩
theorem w_126 : Cond.fieldLink "ProxyVotes$Item" 40 "ProxyVotes$Item" "timesPutOff" "I" ∈ kWG := List.mem_filter.mpr ⟨List.mem_of_getElem? (i := 126) (by decide +kernel), rfl⟩
theorem w_128 : Cond.fieldLink "ProxyVotes$Item" 9 "ProxyVotes$Item" "sums" "[I" ∈ kWG := List.mem_filter.mpr ⟨List.mem_of_getElem? (i := 128) (by decide +kernel), rfl⟩
theorem w_131 : Cond.fieldLink "ProxyVotes$Item" 15 "ProxyVotes$Item" "votes" "[I" ∈ kWG := List.mem_filter.mpr ⟨List.mem_of_getElem? (i := 131) (by decide +kernel), rfl⟩
theorem w_135 : Cond.fieldLink "ProxyVotes$Item" 18 "ProxyVotes$Item" "told" "[I" ∈ kWG := List.mem_filter.mpr ⟨List.mem_of_getElem? (i := 135) (by decide +kernel), rfl⟩
theorem w_139 : Cond.fieldLink "ProxyVotes$Item" 21 "ProxyVotes$Item" "holders" "[I" ∈ kWG := List.mem_filter.mpr ⟨List.mem_of_getElem? (i := 139) (by decide +kernel), rfl⟩
theorem w_142 : Cond.lays "ProxyVotes$Item" "ProxyVotes$Item" "kind" "I" ∈ kWG := List.mem_filter.mpr ⟨List.mem_of_getElem? (i := 142) (by decide +kernel), rfl⟩
theorem w_144 : Cond.lays "ProxyVotes$Item" "ProxyVotes$Item" "touched" "I" ∈ kWG := List.mem_filter.mpr ⟨List.mem_of_getElem? (i := 144) (by decide +kernel), rfl⟩
theorem w_146 : Cond.lays "ProxyVotes$Item" "ProxyVotes$Item" "state" "I" ∈ kWG := List.mem_filter.mpr ⟨List.mem_of_getElem? (i := 146) (by decide +kernel), rfl⟩
theorem w_148 : Cond.lays "ProxyVotes$Item" "ProxyVotes$Item" "recusedByHand" "I" ∈ kWG := List.mem_filter.mpr ⟨List.mem_of_getElem? (i := 148) (by decide +kernel), rfl⟩
theorem w_150 : Cond.lays "ProxyVotes$Item" "ProxyVotes$Item" "breaker" "I" ∈ kWG := List.mem_filter.mpr ⟨List.mem_of_getElem? (i := 150) (by decide +kernel), rfl⟩
theorem w_152 : Cond.lays "ProxyVotes$Item" "ProxyVotes$Item" "timesPutOff" "I" ∈ kWG := List.mem_filter.mpr ⟨List.mem_of_getElem? (i := 152) (by decide +kernel), rfl⟩
theorem w_154 : Cond.laysFinal "ProxyVotes$Item" "ProxyVotes$Item" "sums" "[I" ∈ kWG := List.mem_filter.mpr ⟨List.mem_of_getElem? (i := 154) (by decide +kernel), rfl⟩
theorem w_156 : Cond.laysFinal "ProxyVotes$Item" "ProxyVotes$Item" "votes" "[I" ∈ kWG := List.mem_filter.mpr ⟨List.mem_of_getElem? (i := 156) (by decide +kernel), rfl⟩
theorem w_158 : Cond.laysFinal "ProxyVotes$Item" "ProxyVotes$Item" "told" "[I" ∈ kWG := List.mem_filter.mpr ⟨List.mem_of_getElem? (i := 158) (by decide +kernel), rfl⟩
theorem w_160 : Cond.laysFinal "ProxyVotes$Item" "ProxyVotes$Item" "holders" "[I" ∈ kWG := List.mem_filter.mpr ⟨List.mem_of_getElem? (i := 160) (by decide +kernel), rfl⟩
theorem w_163 : Cond.fieldLink "ProxyVotes$Committee" 51 "ProxyVotes$Committee" "minute" "I" ∈ kWG := List.mem_filter.mpr ⟨List.mem_of_getElem? (i := 163) (by decide +kernel), rfl⟩
theorem w_165 : Cond.fieldLink "ProxyVotes$Committee" 54 "ProxyVotes$Committee" "memberCount" "I" ∈ kWG := List.mem_filter.mpr ⟨List.mem_of_getElem? (i := 165) (by decide +kernel), rfl⟩
theorem w_168 : Cond.fieldLink "ProxyVotes$Committee" 57 "ProxyVotes$Committee" "itemCount" "I" ∈ kWG := List.mem_filter.mpr ⟨List.mem_of_getElem? (i := 168) (by decide +kernel), rfl⟩
theorem w_170 : Cond.fieldLink "ProxyVotes$Committee" 60 "ProxyVotes$Committee" "present" "I" ∈ kWG := List.mem_filter.mpr ⟨List.mem_of_getElem? (i := 170) (by decide +kernel), rfl⟩
theorem w_172 : Cond.fieldLink "ProxyVotes$Committee" 9 "ProxyVotes$Committee" "chairNamed" "I" ∈ kWG := List.mem_filter.mpr ⟨List.mem_of_getElem? (i := 172) (by decide +kernel), rfl⟩
theorem w_174 : Cond.fieldLink "ProxyVotes$Committee" 15 "ProxyVotes$Committee" "settings" "[I" ∈ kWG := List.mem_filter.mpr ⟨List.mem_of_getElem? (i := 174) (by decide +kernel), rfl⟩
theorem w_177 : Cond.fieldLink "ProxyVotes$Committee" 19 "ProxyVotes$Committee" "weights" "[I" ∈ kWG := List.mem_filter.mpr ⟨List.mem_of_getElem? (i := 177) (by decide +kernel), rfl⟩
theorem w_180 : Cond.fieldLink "ProxyVotes$Committee" 22 "ProxyVotes$Committee" "groups" "[I" ∈ kWG := List.mem_filter.mpr ⟨List.mem_of_getElem? (i := 180) (by decide +kernel), rfl⟩
theorem w_182 : Cond.fieldLink "ProxyVotes$Committee" 25 "ProxyVotes$Committee" "holders" "[I" ∈ kWG := List.mem_filter.mpr ⟨List.mem_of_getElem? (i := 182) (by decide +kernel), rfl⟩
theorem w_184 : Cond.fieldLink "ProxyVotes$Committee" 30 "ProxyVotes$Committee" "items" "[LProxyVotes$Item;" ∈ kWG := List.mem_filter.mpr ⟨List.mem_of_getElem? (i := 184) (by decide +kernel), rfl⟩
theorem w_186 : Cond.fieldLink "ProxyVotes$Committee" 37 "ProxyVotes$Committee" "movements" "LProxyVotes$Movements;" ∈ kWG := List.mem_filter.mpr ⟨List.mem_of_getElem? (i := 186) (by decide +kernel), rfl⟩
theorem w_188 : Cond.lays "ProxyVotes$Committee" "ProxyVotes$Committee" "minute" "I" ∈ kWG := List.mem_filter.mpr ⟨List.mem_of_getElem? (i := 188) (by decide +kernel), rfl⟩
theorem w_190 : Cond.lays "ProxyVotes$Committee" "ProxyVotes$Committee" "memberCount" "I" ∈ kWG := List.mem_filter.mpr ⟨List.mem_of_getElem? (i := 190) (by decide +kernel), rfl⟩
theorem w_192 : Cond.lays "ProxyVotes$Committee" "ProxyVotes$Committee" "itemCount" "I" ∈ kWG := List.mem_filter.mpr ⟨List.mem_of_getElem? (i := 192) (by decide +kernel), rfl⟩
theorem w_194 : Cond.lays "ProxyVotes$Committee" "ProxyVotes$Committee" "present" "I" ∈ kWG := List.mem_filter.mpr ⟨List.mem_of_getElem? (i := 194) (by decide +kernel), rfl⟩
theorem w_196 : Cond.lays "ProxyVotes$Committee" "ProxyVotes$Committee" "chairNamed" "I" ∈ kWG := List.mem_filter.mpr ⟨List.mem_of_getElem? (i := 196) (by decide +kernel), rfl⟩
theorem w_198 : Cond.laysFinal "ProxyVotes$Committee" "ProxyVotes$Committee" "settings" "[I" ∈ kWG := List.mem_filter.mpr ⟨List.mem_of_getElem? (i := 198) (by decide +kernel), rfl⟩
theorem w_200 : Cond.laysFinal "ProxyVotes$Committee" "ProxyVotes$Committee" "weights" "[I" ∈ kWG := List.mem_filter.mpr ⟨List.mem_of_getElem? (i := 200) (by decide +kernel), rfl⟩
theorem w_202 : Cond.laysFinal "ProxyVotes$Committee" "ProxyVotes$Committee" "groups" "[I" ∈ kWG := List.mem_filter.mpr ⟨List.mem_of_getElem? (i := 202) (by decide +kernel), rfl⟩
theorem w_204 : Cond.laysFinal "ProxyVotes$Committee" "ProxyVotes$Committee" "holders" "[I" ∈ kWG := List.mem_filter.mpr ⟨List.mem_of_getElem? (i := 204) (by decide +kernel), rfl⟩
theorem w_206 : Cond.laysFinal "ProxyVotes$Committee" "ProxyVotes$Committee" "items" "[LProxyVotes$Item;" ∈ kWG := List.mem_filter.mpr ⟨List.mem_of_getElem? (i := 206) (by decide +kernel), rfl⟩
theorem w_208 : Cond.laysFinal "ProxyVotes$Committee" "ProxyVotes$Committee" "movements" "LProxyVotes$Movements;" ∈ kWG := List.mem_filter.mpr ⟨List.mem_of_getElem? (i := 208) (by decide +kernel), rfl⟩
theorem w_211 : Cond.classLink "ProxyVotes" 19 "ProxyVotes$Hearing" ∈ kWG := List.mem_filter.mpr ⟨List.mem_of_getElem? (i := 211) (by decide +kernel), rfl⟩
theorem w_212 : Cond.instantiable "ProxyVotes$Hearing" 3 ∈ kWG := List.mem_filter.mpr ⟨List.mem_of_getElem? (i := 212) (by decide +kernel), rfl⟩
theorem w_214 : Cond.instanceMethod ⟨"ProxyVotes$Hearing", "<init>", "()V"⟩ ∈ kWG := List.mem_filter.mpr ⟨List.mem_of_getElem? (i := 214) (by decide +kernel), rfl⟩
theorem w_215 : Cond.code ⟨"ProxyVotes$Hearing", "<init>", "()V"⟩ prog_3_method_1_code 1 none ∈ kWG := List.mem_filter.mpr ⟨List.mem_of_getElem? (i := 215) (by decide +kernel), rfl⟩
theorem w_216 : Cond.methodLink "ProxyVotes$Hearing" 3 ⟨"java/lang/Object", "<init>", "()V"⟩ ∈ kWG := List.mem_filter.mpr ⟨List.mem_of_getElem? (i := 216) (by decide +kernel), rfl⟩
theorem w_217 : Cond.fieldLink "ProxyVotes$Hearing" 9 "ProxyVotes$Hearing" "speakers" "[I" ∈ kWG := List.mem_filter.mpr ⟨List.mem_of_getElem? (i := 217) (by decide +kernel), rfl⟩
theorem w_219 : Cond.fieldLink "ProxyVotes$Hearing" 15 "ProxyVotes$Hearing" "loads" "[I" ∈ kWG := List.mem_filter.mpr ⟨List.mem_of_getElem? (i := 219) (by decide +kernel), rfl⟩
theorem w_220 : Cond.fieldLink "ProxyVotes$Hearing" 18 "ProxyVotes$Hearing" "sums" "[I" ∈ kWG := List.mem_filter.mpr ⟨List.mem_of_getElem? (i := 220) (by decide +kernel), rfl⟩
theorem w_223 : Cond.laysFinal "ProxyVotes$Hearing" "ProxyVotes$Hearing" "speakers" "[I" ∈ kWG := List.mem_filter.mpr ⟨List.mem_of_getElem? (i := 223) (by decide +kernel), rfl⟩
theorem w_225 : Cond.laysFinal "ProxyVotes$Hearing" "ProxyVotes$Hearing" "loads" "[I" ∈ kWG := List.mem_filter.mpr ⟨List.mem_of_getElem? (i := 225) (by decide +kernel), rfl⟩
theorem w_227 : Cond.laysFinal "ProxyVotes$Hearing" "ProxyVotes$Hearing" "sums" "[I" ∈ kWG := List.mem_filter.mpr ⟨List.mem_of_getElem? (i := 227) (by decide +kernel), rfl⟩
theorem w_230 : Cond.classLink "ProxyVotes" 26 "ProxyVotes$History" ∈ kWG := List.mem_filter.mpr ⟨List.mem_of_getElem? (i := 230) (by decide +kernel), rfl⟩
theorem w_231 : Cond.instantiable "ProxyVotes$History" 3 ∈ kWG := List.mem_filter.mpr ⟨List.mem_of_getElem? (i := 231) (by decide +kernel), rfl⟩
theorem w_233 : Cond.instanceMethod ⟨"ProxyVotes$History", "<init>", "()V"⟩ ∈ kWG := List.mem_filter.mpr ⟨List.mem_of_getElem? (i := 233) (by decide +kernel), rfl⟩
theorem w_234 : Cond.code ⟨"ProxyVotes$History", "<init>", "()V"⟩ prog_4_method_1_code 2 none ∈ kWG := List.mem_filter.mpr ⟨List.mem_of_getElem? (i := 234) (by decide +kernel), rfl⟩
theorem w_235 : Cond.methodLink "ProxyVotes$History" 3 ⟨"java/lang/Object", "<init>", "()V"⟩ ∈ kWG := List.mem_filter.mpr ⟨List.mem_of_getElem? (i := 235) (by decide +kernel), rfl⟩
theorem w_236 : Cond.classLink "ProxyVotes$History" 9 "ProxyVotes$Committee" ∈ kWG := List.mem_filter.mpr ⟨List.mem_of_getElem? (i := 236) (by decide +kernel), rfl⟩
theorem w_239 : Cond.fieldLink "ProxyVotes$History" 11 "ProxyVotes$History" "states" "[LProxyVotes$Committee;" ∈ kWG := List.mem_filter.mpr ⟨List.mem_of_getElem? (i := 239) (by decide +kernel), rfl⟩
theorem w_240 : Cond.fieldLink "ProxyVotes$History" 18 "ProxyVotes$History" "spare" "I" ∈ kWG := List.mem_filter.mpr ⟨List.mem_of_getElem? (i := 240) (by decide +kernel), rfl⟩
theorem w_241 : Cond.fieldLink "ProxyVotes$History" 30 "ProxyVotes$History" "kept" "I" ∈ kWG := List.mem_filter.mpr ⟨List.mem_of_getElem? (i := 241) (by decide +kernel), rfl⟩
theorem w_243 : Cond.laysFinal "ProxyVotes$History" "ProxyVotes$History" "states" "[LProxyVotes$Committee;" ∈ kWG := List.mem_filter.mpr ⟨List.mem_of_getElem? (i := 243) (by decide +kernel), rfl⟩
theorem w_245 : Cond.lays "ProxyVotes$History" "ProxyVotes$History" "spare" "I" ∈ kWG := List.mem_filter.mpr ⟨List.mem_of_getElem? (i := 245) (by decide +kernel), rfl⟩
theorem w_247 : Cond.lays "ProxyVotes$History" "ProxyVotes$History" "kept" "I" ∈ kWG := List.mem_filter.mpr ⟨List.mem_of_getElem? (i := 247) (by decide +kernel), rfl⟩
theorem w_250 : Cond.classLink "ProxyVotes" 33 "ProxyVotes$Pad" ∈ kWG := List.mem_filter.mpr ⟨List.mem_of_getElem? (i := 250) (by decide +kernel), rfl⟩
theorem w_251 : Cond.instantiable "ProxyVotes$Pad" 7 ∈ kWG := List.mem_filter.mpr ⟨List.mem_of_getElem? (i := 251) (by decide +kernel), rfl⟩
theorem w_253 : Cond.instanceMethod ⟨"ProxyVotes$Pad", "<init>", "()V"⟩ ∈ kWG := List.mem_filter.mpr ⟨List.mem_of_getElem? (i := 253) (by decide +kernel), rfl⟩
theorem w_254 : Cond.code ⟨"ProxyVotes$Pad", "<init>", "()V"⟩ prog_7_method_1_code 1 none ∈ kWG := List.mem_filter.mpr ⟨List.mem_of_getElem? (i := 254) (by decide +kernel), rfl⟩
theorem w_255 : Cond.methodLink "ProxyVotes$Pad" 3 ⟨"java/lang/Object", "<init>", "()V"⟩ ∈ kWG := List.mem_filter.mpr ⟨List.mem_of_getElem? (i := 255) (by decide +kernel), rfl⟩
theorem w_256 : Cond.fieldLink "ProxyVotes$Pad" 9 "ProxyVotes$Pad" "text" "[C" ∈ kWG := List.mem_filter.mpr ⟨List.mem_of_getElem? (i := 256) (by decide +kernel), rfl⟩
theorem w_258 : Cond.fieldLink "ProxyVotes$Pad" 15 "ProxyVotes$Pad" "signs" "[C" ∈ kWG := List.mem_filter.mpr ⟨List.mem_of_getElem? (i := 258) (by decide +kernel), rfl⟩
theorem w_259 : Cond.fieldLink "ProxyVotes$Pad" 18 "ProxyVotes$Pad" "members" "[I" ∈ kWG := List.mem_filter.mpr ⟨List.mem_of_getElem? (i := 259) (by decide +kernel), rfl⟩
theorem w_260 : Cond.fieldLink "ProxyVotes$Pad" 22 "ProxyVotes$Pad" "numbers" "[I" ∈ kWG := List.mem_filter.mpr ⟨List.mem_of_getElem? (i := 260) (by decide +kernel), rfl⟩
theorem w_261 : Cond.laysFinal "ProxyVotes$Pad" "ProxyVotes$Pad" "text" "[C" ∈ kWG := List.mem_filter.mpr ⟨List.mem_of_getElem? (i := 261) (by decide +kernel), rfl⟩
theorem w_263 : Cond.lays "ProxyVotes$Pad" "ProxyVotes$Pad" "length" "I" ∈ kWG := List.mem_filter.mpr ⟨List.mem_of_getElem? (i := 263) (by decide +kernel), rfl⟩
theorem w_265 : Cond.lays "ProxyVotes$Pad" "ProxyVotes$Pad" "place" "I" ∈ kWG := List.mem_filter.mpr ⟨List.mem_of_getElem? (i := 265) (by decide +kernel), rfl⟩
theorem w_267 : Cond.lays "ProxyVotes$Pad" "ProxyVotes$Pad" "orders" "I" ∈ kWG := List.mem_filter.mpr ⟨List.mem_of_getElem? (i := 267) (by decide +kernel), rfl⟩
theorem w_269 : Cond.laysFinal "ProxyVotes$Pad" "ProxyVotes$Pad" "signs" "[C" ∈ kWG := List.mem_filter.mpr ⟨List.mem_of_getElem? (i := 269) (by decide +kernel), rfl⟩
theorem w_271 : Cond.laysFinal "ProxyVotes$Pad" "ProxyVotes$Pad" "members" "[I" ∈ kWG := List.mem_filter.mpr ⟨List.mem_of_getElem? (i := 271) (by decide +kernel), rfl⟩
theorem w_273 : Cond.laysFinal "ProxyVotes$Pad" "ProxyVotes$Pad" "numbers" "[I" ∈ kWG := List.mem_filter.mpr ⟨List.mem_of_getElem? (i := 273) (by decide +kernel), rfl⟩
theorem w_276 : Cond.arrayClass FieldType.char ∈ kWG := List.mem_filter.mpr ⟨List.mem_of_getElem? (i := 276) (by decide +kernel), rfl⟩
theorem w_277 : Cond.fieldLink "ProxyVotes" 10 "ProxyVotes" "now" "LProxyVotes$Committee;" ∈ kWG := List.mem_filter.mpr ⟨List.mem_of_getElem? (i := 277) (by decide +kernel), rfl⟩
theorem w_278 : Cond.fieldLink "ProxyVotes" 16 "ProxyVotes" "trial" "LProxyVotes$Committee;" ∈ kWG := List.mem_filter.mpr ⟨List.mem_of_getElem? (i := 278) (by decide +kernel), rfl⟩
theorem w_279 : Cond.fieldLink "ProxyVotes" 22 "ProxyVotes" "hearing" "LProxyVotes$Hearing;" ∈ kWG := List.mem_filter.mpr ⟨List.mem_of_getElem? (i := 279) (by decide +kernel), rfl⟩
theorem w_280 : Cond.fieldLink "ProxyVotes" 29 "ProxyVotes" "history" "LProxyVotes$History;" ∈ kWG := List.mem_filter.mpr ⟨List.mem_of_getElem? (i := 280) (by decide +kernel), rfl⟩
theorem w_281 : Cond.fieldLink "ProxyVotes" 36 "ProxyVotes" "pad" "LProxyVotes$Pad;" ∈ kWG := List.mem_filter.mpr ⟨List.mem_of_getElem? (i := 281) (by decide +kernel), rfl⟩
theorem w_282 : Cond.fieldLink "ProxyVotes" 40 "ProxyVotes" "slots" "[LProxyVotes$Committee;" ∈ kWG := List.mem_filter.mpr ⟨List.mem_of_getElem? (i := 282) (by decide +kernel), rfl⟩
theorem w_283 : Cond.fieldLink "ProxyVotes" 44 "ProxyVotes" "saved" "[Z" ∈ kWG := List.mem_filter.mpr ⟨List.mem_of_getElem? (i := 283) (by decide +kernel), rfl⟩
theorem w_284 : Cond.fieldLink "ProxyVotes" 48 "ProxyVotes" "gains" "[I" ∈ kWG := List.mem_filter.mpr ⟨List.mem_of_getElem? (i := 284) (by decide +kernel), rfl⟩
theorem w_285 : Cond.fieldLink "ProxyVotes" 52 "ProxyVotes" "setsOfWeight" "[I" ∈ kWG := List.mem_filter.mpr ⟨List.mem_of_getElem? (i := 285) (by decide +kernel), rfl⟩
theorem w_286 : Cond.laysFinal "ProxyVotes" "ProxyVotes" "now" "LProxyVotes$Committee;" ∈ kWG := List.mem_filter.mpr ⟨List.mem_of_getElem? (i := 286) (by decide +kernel), rfl⟩
theorem w_288 : Cond.laysFinal "ProxyVotes" "ProxyVotes" "trial" "LProxyVotes$Committee;" ∈ kWG := List.mem_filter.mpr ⟨List.mem_of_getElem? (i := 288) (by decide +kernel), rfl⟩
theorem w_290 : Cond.laysFinal "ProxyVotes" "ProxyVotes" "hearing" "LProxyVotes$Hearing;" ∈ kWG := List.mem_filter.mpr ⟨List.mem_of_getElem? (i := 290) (by decide +kernel), rfl⟩
theorem w_292 : Cond.laysFinal "ProxyVotes" "ProxyVotes" "history" "LProxyVotes$History;" ∈ kWG := List.mem_filter.mpr ⟨List.mem_of_getElem? (i := 292) (by decide +kernel), rfl⟩
theorem w_294 : Cond.laysFinal "ProxyVotes" "ProxyVotes" "pad" "LProxyVotes$Pad;" ∈ kWG := List.mem_filter.mpr ⟨List.mem_of_getElem? (i := 294) (by decide +kernel), rfl⟩
theorem w_296 : Cond.laysFinal "ProxyVotes" "ProxyVotes" "slots" "[LProxyVotes$Committee;" ∈ kWG := List.mem_filter.mpr ⟨List.mem_of_getElem? (i := 296) (by decide +kernel), rfl⟩
theorem w_298 : Cond.laysFinal "ProxyVotes" "ProxyVotes" "saved" "[Z" ∈ kWG := List.mem_filter.mpr ⟨List.mem_of_getElem? (i := 298) (by decide +kernel), rfl⟩
theorem w_300 : Cond.laysFinal "ProxyVotes" "ProxyVotes" "gains" "[I" ∈ kWG := List.mem_filter.mpr ⟨List.mem_of_getElem? (i := 300) (by decide +kernel), rfl⟩
theorem w_302 : Cond.laysFinal "ProxyVotes" "ProxyVotes" "setsOfWeight" "[I" ∈ kWG := List.mem_filter.mpr ⟨List.mem_of_getElem? (i := 302) (by decide +kernel), rfl⟩
theorem w_305 : Cond.arrayClass FieldType.boolean ∈ kWG := List.mem_filter.mpr ⟨List.mem_of_getElem? (i := 305) (by decide +kernel), rfl⟩
theorem w_306 : Cond.methodLink "ProxyVotesLaw" 134 ⟨"ProxyVotes", "set", "(II)I"⟩ ∈ kWG := List.mem_filter.mpr ⟨List.mem_of_getElem? (i := 306) (by decide +kernel), rfl⟩
theorem w_307 : Cond.instanceMethod ⟨"ProxyVotes", "set", "(II)I"⟩ ∈ kWG := List.mem_filter.mpr ⟨List.mem_of_getElem? (i := 307) (by decide +kernel), rfl⟩
theorem w_308 : Cond.selects "ProxyVotes" ⟨"ProxyVotes", "set", "(II)I"⟩ ⟨"ProxyVotes", "set", "(II)I"⟩ ∈ kWG := List.mem_filter.mpr ⟨List.mem_of_getElem? (i := 308) (by decide +kernel), rfl⟩
theorem w_309 : Cond.code ⟨"ProxyVotes", "set", "(II)I"⟩ prog_1_method_2_code 3 (some FieldType.int) ∈ kWG := List.mem_filter.mpr ⟨List.mem_of_getElem? (i := 309) (by decide +kernel), rfl⟩
theorem w_312 : Cond.instanceMethod ⟨"ProxyVotes$History", "note", "(LProxyVotes$Committee;)V"⟩ ∈ kWG := List.mem_filter.mpr ⟨List.mem_of_getElem? (i := 312) (by decide +kernel), rfl⟩
theorem w_313 : Cond.code ⟨"ProxyVotes$History", "note", "(LProxyVotes$Committee;)V"⟩ prog_4_method_2_code 2 none ∈ kWG := List.mem_filter.mpr ⟨List.mem_of_getElem? (i := 313) (by decide +kernel), rfl⟩
theorem w_316 : Cond.instanceMethod ⟨"ProxyVotes$Committee", "copyFrom", "(LProxyVotes$Committee;)V"⟩ ∈ kWG := List.mem_filter.mpr ⟨List.mem_of_getElem? (i := 316) (by decide +kernel), rfl⟩
theorem w_317 : Cond.code ⟨"ProxyVotes$Committee", "copyFrom", "(LProxyVotes$Committee;)V"⟩ prog_2_method_2_code 3 none ∈ kWG := List.mem_filter.mpr ⟨List.mem_of_getElem? (i := 317) (by decide +kernel), rfl⟩
theorem w_320 : Cond.instanceMethod ⟨"ProxyVotes$Item", "copyFrom", "(LProxyVotes$Item;)V"⟩ ∈ kWG := List.mem_filter.mpr ⟨List.mem_of_getElem? (i := 320) (by decide +kernel), rfl⟩
theorem w_321 : Cond.code ⟨"ProxyVotes$Item", "copyFrom", "(LProxyVotes$Item;)V"⟩ prog_5_method_3_code 2 none ∈ kWG := List.mem_filter.mpr ⟨List.mem_of_getElem? (i := 321) (by decide +kernel), rfl⟩
theorem w_322 : Cond.methodLink "ProxyVotes$Item" 49 ⟨"java/lang/System", "arraycopy", "(Ljava/lang/Object;ILjava/lang/Object;II)V"⟩ ∈ kWG := List.mem_filter.mpr ⟨List.mem_of_getElem? (i := 322) (by decide +kernel), rfl⟩
theorem w_325 : Cond.instanceMethod ⟨"ProxyVotes$Movements", "copyFrom", "(LProxyVotes$Movements;)V"⟩ ∈ kWG := List.mem_filter.mpr ⟨List.mem_of_getElem? (i := 325) (by decide +kernel), rfl⟩
theorem w_326 : Cond.code ⟨"ProxyVotes$Movements", "copyFrom", "(LProxyVotes$Movements;)V"⟩ prog_6_method_5_code 2 none ∈ kWG := List.mem_filter.mpr ⟨List.mem_of_getElem? (i := 326) (by decide +kernel), rfl⟩
theorem w_327 : Cond.methodLink "ProxyVotes$Movements" 25 ⟨"java/lang/System", "arraycopy", "(Ljava/lang/Object;ILjava/lang/Object;II)V"⟩ ∈ kWG := List.mem_filter.mpr ⟨List.mem_of_getElem? (i := 327) (by decide +kernel), rfl⟩
theorem w_330 : Cond.instanceMethod ⟨"ProxyVotes$Committee", "changeSetting", "(II)I"⟩ ∈ kWG := List.mem_filter.mpr ⟨List.mem_of_getElem? (i := 330) (by decide +kernel), rfl⟩
theorem w_331 : Cond.code ⟨"ProxyVotes$Committee", "changeSetting", "(II)I"⟩ prog_2_method_16_code 4 (some FieldType.int) ∈ kWG := List.mem_filter.mpr ⟨List.mem_of_getElem? (i := 331) (by decide +kernel), rfl⟩
theorem w_336 : Cond.instanceMethod ⟨"ProxyVotes$History", "settle", "(I)I"⟩ ∈ kWG := List.mem_filter.mpr ⟨List.mem_of_getElem? (i := 336) (by decide +kernel), rfl⟩
theorem w_337 : Cond.code ⟨"ProxyVotes$History", "settle", "(I)I"⟩ prog_4_method_3_code 2 (some FieldType.int) ∈ kWG := List.mem_filter.mpr ⟨List.mem_of_getElem? (i := 337) (by decide +kernel), rfl⟩
theorem w_339 : Cond.static ⟨"ProxyVotes", "isError", "(I)Z"⟩ ∈ kWG := List.mem_filter.mpr ⟨List.mem_of_getElem? (i := 339) (by decide +kernel), rfl⟩
theorem w_340 : Cond.code ⟨"ProxyVotes", "isError", "(I)Z"⟩ prog_1_method_41_code 1 (some FieldType.boolean) ∈ kWG := List.mem_filter.mpr ⟨List.mem_of_getElem? (i := 340) (by decide +kernel), rfl⟩
theorem w_341 : Cond.methodLink "ProxyVotes$History" 33 ⟨"java/lang/Math", "min", "(II)I"⟩ ∈ kWG := List.mem_filter.mpr ⟨List.mem_of_getElem? (i := 341) (by decide +kernel), rfl⟩
theorem w_342 : Cond.static ⟨"java/lang/Math", "min", "(II)I"⟩ ∈ kWG := List.mem_filter.mpr ⟨List.mem_of_getElem? (i := 342) (by decide +kernel), rfl⟩
theorem w_343 : Cond.code ⟨"java/lang/Math", "min", "(II)I"⟩ prog_11_method_69_code 2 (some FieldType.int) ∈ kWG := List.mem_filter.mpr ⟨List.mem_of_getElem? (i := 343) (by decide +kernel), rfl⟩
theorem w_344 : Cond.methodLink "ProxyVotesLaw" 137 ⟨"ProxyVotes", "member", "(II)I"⟩ ∈ kWG := List.mem_filter.mpr ⟨List.mem_of_getElem? (i := 344) (by decide +kernel), rfl⟩
theorem w_345 : Cond.instanceMethod ⟨"ProxyVotes", "member", "(II)I"⟩ ∈ kWG := List.mem_filter.mpr ⟨List.mem_of_getElem? (i := 345) (by decide +kernel), rfl⟩
theorem w_346 : Cond.selects "ProxyVotes" ⟨"ProxyVotes", "member", "(II)I"⟩ ⟨"ProxyVotes", "member", "(II)I"⟩ ∈ kWG := List.mem_filter.mpr ⟨List.mem_of_getElem? (i := 346) (by decide +kernel), rfl⟩
theorem w_347 : Cond.code ⟨"ProxyVotes", "member", "(II)I"⟩ prog_1_method_3_code 3 (some FieldType.int) ∈ kWG := List.mem_filter.mpr ⟨List.mem_of_getElem? (i := 347) (by decide +kernel), rfl⟩
theorem w_350 : Cond.instanceMethod ⟨"ProxyVotes$Committee", "addMember", "(II)I"⟩ ∈ kWG := List.mem_filter.mpr ⟨List.mem_of_getElem? (i := 350) (by decide +kernel), rfl⟩
theorem w_351 : Cond.code ⟨"ProxyVotes$Committee", "addMember", "(II)I"⟩ prog_2_method_17_code 3 (some FieldType.int) ∈ kWG := List.mem_filter.mpr ⟨List.mem_of_getElem? (i := 351) (by decide +kernel), rfl⟩
theorem w_352 : Cond.methodLink "ProxyVotesLaw" 140 ⟨"ProxyVotes", "item", "(II)I"⟩ ∈ kWG := List.mem_filter.mpr ⟨List.mem_of_getElem? (i := 352) (by decide +kernel), rfl⟩
theorem w_353 : Cond.instanceMethod ⟨"ProxyVotes", "item", "(II)I"⟩ ∈ kWG := List.mem_filter.mpr ⟨List.mem_of_getElem? (i := 353) (by decide +kernel), rfl⟩
theorem w_354 : Cond.selects "ProxyVotes" ⟨"ProxyVotes", "item", "(II)I"⟩ ⟨"ProxyVotes", "item", "(II)I"⟩ ∈ kWG := List.mem_filter.mpr ⟨List.mem_of_getElem? (i := 354) (by decide +kernel), rfl⟩
theorem w_355 : Cond.code ⟨"ProxyVotes", "item", "(II)I"⟩ prog_1_method_4_code 3 (some FieldType.int) ∈ kWG := List.mem_filter.mpr ⟨List.mem_of_getElem? (i := 355) (by decide +kernel), rfl⟩
theorem w_358 : Cond.instanceMethod ⟨"ProxyVotes$Committee", "addItem", "(II)I"⟩ ∈ kWG := List.mem_filter.mpr ⟨List.mem_of_getElem? (i := 358) (by decide +kernel), rfl⟩
theorem w_359 : Cond.code ⟨"ProxyVotes$Committee", "addItem", "(II)I"⟩ prog_2_method_18_code 3 (some FieldType.int) ∈ kWG := List.mem_filter.mpr ⟨List.mem_of_getElem? (i := 359) (by decide +kernel), rfl⟩
theorem w_362 : Cond.instanceMethod ⟨"ProxyVotes$Item", "begin", "(II)V"⟩ ∈ kWG := List.mem_filter.mpr ⟨List.mem_of_getElem? (i := 362) (by decide +kernel), rfl⟩
theorem w_363 : Cond.code ⟨"ProxyVotes$Item", "begin", "(II)V"⟩ prog_5_method_2_code 3 none ∈ kWG := List.mem_filter.mpr ⟨List.mem_of_getElem? (i := 363) (by decide +kernel), rfl⟩
theorem w_364 : Cond.methodLink "ProxyVotes$Item" 43 ⟨"java/util/Arrays", "fill", "([II)V"⟩ ∈ kWG := List.mem_filter.mpr ⟨List.mem_of_getElem? (i := 364) (by decide +kernel), rfl⟩
theorem w_365 : Cond.static ⟨"java/util/Arrays", "fill", "([II)V"⟩ ∈ kWG := List.mem_filter.mpr ⟨List.mem_of_getElem? (i := 365) (by decide +kernel), rfl⟩
theorem w_366 : Cond.code ⟨"java/util/Arrays", "fill", "([II)V"⟩ prog_13_method_103_code 4 none ∈ kWG := List.mem_filter.mpr ⟨List.mem_of_getElem? (i := 366) (by decide +kernel), rfl⟩
theorem w_367 : Cond.methodLink "ProxyVotesLaw" 143 ⟨"ProxyVotes", "chair", "(I)I"⟩ ∈ kWG := List.mem_filter.mpr ⟨List.mem_of_getElem? (i := 367) (by decide +kernel), rfl⟩
theorem w_368 : Cond.instanceMethod ⟨"ProxyVotes", "chair", "(I)I"⟩ ∈ kWG := List.mem_filter.mpr ⟨List.mem_of_getElem? (i := 368) (by decide +kernel), rfl⟩
theorem w_369 : Cond.selects "ProxyVotes" ⟨"ProxyVotes", "chair", "(I)I"⟩ ⟨"ProxyVotes", "chair", "(I)I"⟩ ∈ kWG := List.mem_filter.mpr ⟨List.mem_of_getElem? (i := 369) (by decide +kernel), rfl⟩
theorem w_370 : Cond.code ⟨"ProxyVotes", "chair", "(I)I"⟩ prog_1_method_5_code 2 (some FieldType.int) ∈ kWG := List.mem_filter.mpr ⟨List.mem_of_getElem? (i := 370) (by decide +kernel), rfl⟩
theorem w_373 : Cond.instanceMethod ⟨"ProxyVotes$Committee", "nameChair", "(I)I"⟩ ∈ kWG := List.mem_filter.mpr ⟨List.mem_of_getElem? (i := 373) (by decide +kernel), rfl⟩
theorem w_374 : Cond.code ⟨"ProxyVotes$Committee", "nameChair", "(I)I"⟩ prog_2_method_19_code 3 (some FieldType.int) ∈ kWG := List.mem_filter.mpr ⟨List.mem_of_getElem? (i := 374) (by decide +kernel), rfl⟩
theorem w_375 : Cond.methodLink "ProxyVotes$Committee" 105 ⟨"ProxyVotes$Committee", "hasMember", "(I)Z"⟩ ∈ kWG := List.mem_filter.mpr ⟨List.mem_of_getElem? (i := 375) (by decide +kernel), rfl⟩
theorem w_377 : Cond.instanceMethod ⟨"ProxyVotes$Committee", "hasMember", "(I)Z"⟩ ∈ kWG := List.mem_filter.mpr ⟨List.mem_of_getElem? (i := 377) (by decide +kernel), rfl⟩
theorem w_378 : Cond.code ⟨"ProxyVotes$Committee", "hasMember", "(I)Z"⟩ prog_2_method_3_code 2 (some FieldType.boolean) ∈ kWG := List.mem_filter.mpr ⟨List.mem_of_getElem? (i := 378) (by decide +kernel), rfl⟩
theorem w_379 : Cond.methodLink "ProxyVotesLaw" 14 ⟨"ProxyVotes", "ofMember", "(II)I"⟩ ∈ kWG := List.mem_filter.mpr ⟨List.mem_of_getElem? (i := 379) (by decide +kernel), rfl⟩
theorem w_380 : Cond.instanceMethod ⟨"ProxyVotes", "ofMember", "(II)I"⟩ ∈ kWG := List.mem_filter.mpr ⟨List.mem_of_getElem? (i := 380) (by decide +kernel), rfl⟩
theorem w_381 : Cond.selects "ProxyVotes" ⟨"ProxyVotes", "ofMember", "(II)I"⟩ ⟨"ProxyVotes", "ofMember", "(II)I"⟩ ∈ kWG := List.mem_filter.mpr ⟨List.mem_of_getElem? (i := 381) (by decide +kernel), rfl⟩
theorem w_382 : Cond.code ⟨"ProxyVotes", "ofMember", "(II)I"⟩ prog_1_method_17_code 3 (some FieldType.int) ∈ kWG := List.mem_filter.mpr ⟨List.mem_of_getElem? (i := 382) (by decide +kernel), rfl⟩
theorem w_386 : Cond.instanceMethod ⟨"ProxyVotes$Committee", "isPresent", "(I)Z"⟩ ∈ kWG := List.mem_filter.mpr ⟨List.mem_of_getElem? (i := 386) (by decide +kernel), rfl⟩
theorem w_387 : Cond.code ⟨"ProxyVotes$Committee", "isPresent", "(I)Z"⟩ prog_2_method_5_code 2 (some FieldType.boolean) ∈ kWG := List.mem_filter.mpr ⟨List.mem_of_getElem? (i := 387) (by decide +kernel), rfl⟩
theorem w_390 : Cond.instanceMethod ⟨"ProxyVotes$Committee", "votesOf", "(I)I"⟩ ∈ kWG := List.mem_filter.mpr ⟨List.mem_of_getElem? (i := 390) (by decide +kernel), rfl⟩
theorem w_391 : Cond.code ⟨"ProxyVotes$Committee", "votesOf", "(I)I"⟩ prog_2_method_14_code 4 (some FieldType.int) ∈ kWG := List.mem_filter.mpr ⟨List.mem_of_getElem? (i := 391) (by decide +kernel), rfl⟩
theorem w_394 : Cond.instanceMethod ⟨"ProxyVotes$Committee", "tiesBrokenBy", "(I)I"⟩ ∈ kWG := List.mem_filter.mpr ⟨List.mem_of_getElem? (i := 394) (by decide +kernel), rfl⟩
theorem w_395 : Cond.code ⟨"ProxyVotes$Committee", "tiesBrokenBy", "(I)I"⟩ prog_2_method_15_code 4 (some FieldType.int) ∈ kWG := List.mem_filter.mpr ⟨List.mem_of_getElem? (i := 395) (by decide +kernel), rfl⟩
theorem w_396 : Cond.methodLink "ProxyVotesLaw" 28 ⟨"ProxyVotes", "count", "(I)I"⟩ ∈ kWG := List.mem_filter.mpr ⟨List.mem_of_getElem? (i := 396) (by decide +kernel), rfl⟩
theorem w_397 : Cond.instanceMethod ⟨"ProxyVotes", "count", "(I)I"⟩ ∈ kWG := List.mem_filter.mpr ⟨List.mem_of_getElem? (i := 397) (by decide +kernel), rfl⟩
theorem w_398 : Cond.selects "ProxyVotes" ⟨"ProxyVotes", "count", "(I)I"⟩ ⟨"ProxyVotes", "count", "(I)I"⟩ ∈ kWG := List.mem_filter.mpr ⟨List.mem_of_getElem? (i := 398) (by decide +kernel), rfl⟩
theorem w_399 : Cond.code ⟨"ProxyVotes", "count", "(I)I"⟩ prog_1_method_20_code 2 (some FieldType.int) ∈ kWG := List.mem_filter.mpr ⟨List.mem_of_getElem? (i := 399) (by decide +kernel), rfl⟩
theorem w_402 : Cond.instanceMethod ⟨"ProxyVotes$Committee", "itemsIn", "(I)I"⟩ ∈ kWG := List.mem_filter.mpr ⟨List.mem_of_getElem? (i := 402) (by decide +kernel), rfl⟩
theorem w_403 : Cond.code ⟨"ProxyVotes$Committee", "itemsIn", "(I)I"⟩ prog_2_method_13_code 4 (some FieldType.int) ∈ kWG := List.mem_filter.mpr ⟨List.mem_of_getElem? (i := 403) (by decide +kernel), rfl⟩
theorem w_406 : Cond.instanceMethod ⟨"ProxyVotes$Committee", "firstIn", "(I)I"⟩ ∈ kWG := List.mem_filter.mpr ⟨List.mem_of_getElem? (i := 406) (by decide +kernel), rfl⟩
theorem w_407 : Cond.code ⟨"ProxyVotes$Committee", "firstIn", "(I)I"⟩ prog_2_method_12_code 3 (some FieldType.int) ∈ kWG := List.mem_filter.mpr ⟨List.mem_of_getElem? (i := 407) (by decide +kernel), rfl⟩
theorem w_410 : Cond.instanceMethod ⟨"ProxyVotes$Committee", "chairOfTheMoment", "()I"⟩ ∈ kWG := List.mem_filter.mpr ⟨List.mem_of_getElem? (i := 410) (by decide +kernel), rfl⟩
theorem w_411 : Cond.code ⟨"ProxyVotes$Committee", "chairOfTheMoment", "()I"⟩ prog_2_method_11_code 2 (some FieldType.int) ∈ kWG := List.mem_filter.mpr ⟨List.mem_of_getElem? (i := 411) (by decide +kernel), rfl⟩
theorem w_412 : Cond.methodLink "ProxyVotes$Committee" 76 ⟨"ProxyVotes$Committee", "isPresent", "(I)Z"⟩ ∈ kWG := List.mem_filter.mpr ⟨List.mem_of_getElem? (i := 412) (by decide +kernel), rfl⟩
theorem w_415 : Cond.instanceMethod ⟨"ProxyVotes$Committee", "weightOfAll", "()I"⟩ ∈ kWG := List.mem_filter.mpr ⟨List.mem_of_getElem? (i := 415) (by decide +kernel), rfl⟩
theorem w_416 : Cond.code ⟨"ProxyVotes$Committee", "weightOfAll", "()I"⟩ prog_2_method_9_code 3 (some FieldType.int) ∈ kWG := List.mem_filter.mpr ⟨List.mem_of_getElem? (i := 416) (by decide +kernel), rfl⟩
theorem w_417 : Cond.methodLink "ProxyVotesLaw" 93 ⟨"ProxyVotesLaw", "cell", "([III)I"⟩ ∈ kWG := List.mem_filter.mpr ⟨List.mem_of_getElem? (i := 417) (by decide +kernel), rfl⟩
theorem w_418 : Cond.static ⟨"ProxyVotesLaw", "cell", "([III)I"⟩ ∈ kWG := List.mem_filter.mpr ⟨List.mem_of_getElem? (i := 418) (by decide +kernel), rfl⟩
theorem w_419 : Cond.code ⟨"ProxyVotesLaw", "cell", "([III)I"⟩ method_2_code 3 (some FieldType.int) ∈ kWG := List.mem_filter.mpr ⟨List.mem_of_getElem? (i := 419) (by decide +kernel), rfl⟩
theorem w_420 : Cond.constant "ProxyVotesLaw" 7 (4194303) ∈ kWG := List.mem_filter.mpr ⟨List.mem_of_getElem? (i := 420) (by decide +kernel), rfl⟩
theorem w_421 : Cond.methodLink "ProxyVotesLaw" 150 ⟨"ProxyVotesLaw", "isItem", "(LProxyVotes;I)Z"⟩ ∈ kWG := List.mem_filter.mpr ⟨List.mem_of_getElem? (i := 421) (by decide +kernel), rfl⟩
theorem w_422 : Cond.static ⟨"ProxyVotesLaw", "isItem", "(LProxyVotes;I)Z"⟩ ∈ kWG := List.mem_filter.mpr ⟨List.mem_of_getElem? (i := 422) (by decide +kernel), rfl⟩
theorem w_423 : Cond.code ⟨"ProxyVotesLaw", "isItem", "(LProxyVotes;I)Z"⟩ method_12_code 6 (some FieldType.boolean) ∈ kWG := List.mem_filter.mpr ⟨List.mem_of_getElem? (i := 423) (by decide +kernel), rfl⟩
theorem w_424 : Cond.methodLink "ProxyVotesLaw" 39 ⟨"ProxyVotesLaw", "areVoices", "(LProxyVotes;I[I)Z"⟩ ∈ kWG := List.mem_filter.mpr ⟨List.mem_of_getElem? (i := 424) (by decide +kernel), rfl⟩
theorem w_425 : Cond.static ⟨"ProxyVotesLaw", "areVoices", "(LProxyVotes;I[I)Z"⟩ ∈ kWG := List.mem_filter.mpr ⟨List.mem_of_getElem? (i := 425) (by decide +kernel), rfl⟩
theorem w_426 : Cond.code ⟨"ProxyVotesLaw", "areVoices", "(LProxyVotes;I[I)Z"⟩ method_7_code 8 (some FieldType.boolean) ∈ kWG := List.mem_filter.mpr ⟨List.mem_of_getElem? (i := 426) (by decide +kernel), rfl⟩
theorem w_427 : Cond.methodLink "ProxyVotesLaw" 32 ⟨"ProxyVotes", "ofItem", "(II)I"⟩ ∈ kWG := List.mem_filter.mpr ⟨List.mem_of_getElem? (i := 427) (by decide +kernel), rfl⟩
theorem w_428 : Cond.instanceMethod ⟨"ProxyVotes", "ofItem", "(II)I"⟩ ∈ kWG := List.mem_filter.mpr ⟨List.mem_of_getElem? (i := 428) (by decide +kernel), rfl⟩
theorem w_429 : Cond.selects "ProxyVotes" ⟨"ProxyVotes", "ofItem", "(II)I"⟩ ⟨"ProxyVotes", "ofItem", "(II)I"⟩ ∈ kWG := List.mem_filter.mpr ⟨List.mem_of_getElem? (i := 429) (by decide +kernel), rfl⟩
theorem w_430 : Cond.code ⟨"ProxyVotes", "ofItem", "(II)I"⟩ prog_1_method_18_code 4 (some FieldType.int) ∈ kWG := List.mem_filter.mpr ⟨List.mem_of_getElem? (i := 430) (by decide +kernel), rfl⟩
theorem w_433 : Cond.instanceMethod ⟨"ProxyVotes$Committee", "hasItem", "(I)Z"⟩ ∈ kWG := List.mem_filter.mpr ⟨List.mem_of_getElem? (i := 433) (by decide +kernel), rfl⟩
theorem w_434 : Cond.code ⟨"ProxyVotes$Committee", "hasItem", "(I)Z"⟩ prog_2_method_4_code 2 (some FieldType.boolean) ∈ kWG := List.mem_filter.mpr ⟨List.mem_of_getElem? (i := 434) (by decide +kernel), rfl⟩
theorem w_437 : Cond.instanceMethod ⟨"ProxyVotes$Hearing", "listen", "(LProxyVotes$Committee;LProxyVotes$Item;)V"⟩ ∈ kWG := List.mem_filter.mpr ⟨List.mem_of_getElem? (i := 437) (by decide +kernel), rfl⟩
theorem w_438 : Cond.code ⟨"ProxyVotes$Hearing", "listen", "(LProxyVotes$Committee;LProxyVotes$Item;)V"⟩ prog_3_method_2_code 4 none ∈ kWG := List.mem_filter.mpr ⟨List.mem_of_getElem? (i := 438) (by decide +kernel), rfl⟩
theorem w_439 : Cond.methodLink "ProxyVotes$Hearing" 21 ⟨"java/util/Arrays", "fill", "([II)V"⟩ ∈ kWG := List.mem_filter.mpr ⟨List.mem_of_getElem? (i := 439) (by decide +kernel), rfl⟩
theorem w_442 : Cond.instanceMethod ⟨"ProxyVotes$Committee", "isRecused", "(ILProxyVotes$Item;)Z"⟩ ∈ kWG := List.mem_filter.mpr ⟨List.mem_of_getElem? (i := 442) (by decide +kernel), rfl⟩
theorem w_443 : Cond.code ⟨"ProxyVotes$Committee", "isRecused", "(ILProxyVotes$Item;)Z"⟩ prog_2_method_6_code 3 (some FieldType.boolean) ∈ kWG := List.mem_filter.mpr ⟨List.mem_of_getElem? (i := 443) (by decide +kernel), rfl⟩
theorem w_445 : Cond.methodLink "ProxyVotes$Hearing" 41 ⟨"ProxyVotes$Hearing", "takenUp", "(LProxyVotes$Committee;LProxyVotes$Item;I)I"⟩ ∈ kWG := List.mem_filter.mpr ⟨List.mem_of_getElem? (i := 445) (by decide +kernel), rfl⟩
theorem w_447 : Cond.instanceMethod ⟨"ProxyVotes$Hearing", "takenUp", "(LProxyVotes$Committee;LProxyVotes$Item;I)I"⟩ ∈ kWG := List.mem_filter.mpr ⟨List.mem_of_getElem? (i := 447) (by decide +kernel), rfl⟩
theorem w_448 : Cond.code ⟨"ProxyVotes$Hearing", "takenUp", "(LProxyVotes$Committee;LProxyVotes$Item;I)I"⟩ prog_3_method_3_code 5 (some FieldType.int) ∈ kWG := List.mem_filter.mpr ⟨List.mem_of_getElem? (i := 448) (by decide +kernel), rfl⟩
theorem w_449 : Cond.methodLink "ProxyVotes$Hearing" 45 ⟨"ProxyVotes$Hearing", "endOfWay", "(LProxyVotes$Committee;LProxyVotes$Item;I)I"⟩ ∈ kWG := List.mem_filter.mpr ⟨List.mem_of_getElem? (i := 449) (by decide +kernel), rfl⟩
theorem w_451 : Cond.instanceMethod ⟨"ProxyVotes$Hearing", "endOfWay", "(LProxyVotes$Committee;LProxyVotes$Item;I)I"⟩ ∈ kWG := List.mem_filter.mpr ⟨List.mem_of_getElem? (i := 451) (by decide +kernel), rfl⟩
theorem w_452 : Cond.code ⟨"ProxyVotes$Hearing", "endOfWay", "(LProxyVotes$Committee;LProxyVotes$Item;I)I"⟩ prog_3_method_4_code 7 (some FieldType.int) ∈ kWG := List.mem_filter.mpr ⟨List.mem_of_getElem? (i := 452) (by decide +kernel), rfl⟩
theorem w_455 : Cond.instanceMethod ⟨"ProxyVotes$Committee", "holderFor", "(ILProxyVotes$Item;)I"⟩ ∈ kWG := List.mem_filter.mpr ⟨List.mem_of_getElem? (i := 455) (by decide +kernel), rfl⟩
theorem w_456 : Cond.code ⟨"ProxyVotes$Committee", "holderFor", "(ILProxyVotes$Item;)I"⟩ prog_2_method_8_code 3 (some FieldType.int) ∈ kWG := List.mem_filter.mpr ⟨List.mem_of_getElem? (i := 456) (by decide +kernel), rfl⟩
theorem w_459 : Cond.instanceMethod ⟨"ProxyVotes$Hearing", "weightThere", "(LProxyVotes$Committee;)I"⟩ ∈ kWG := List.mem_filter.mpr ⟨List.mem_of_getElem? (i := 459) (by decide +kernel), rfl⟩
theorem w_460 : Cond.code ⟨"ProxyVotes$Hearing", "weightThere", "(LProxyVotes$Committee;)I"⟩ prog_3_method_6_code 4 (some FieldType.int) ∈ kWG := List.mem_filter.mpr ⟨List.mem_of_getElem? (i := 460) (by decide +kernel), rfl⟩
theorem w_463 : Cond.instanceMethod ⟨"ProxyVotes$Committee", "isQuorum", "(I)Z"⟩ ∈ kWG := List.mem_filter.mpr ⟨List.mem_of_getElem? (i := 463) (by decide +kernel), rfl⟩
theorem w_464 : Cond.code ⟨"ProxyVotes$Committee", "isQuorum", "(I)Z"⟩ prog_2_method_10_code 3 (some FieldType.boolean) ∈ kWG := List.mem_filter.mpr ⟨List.mem_of_getElem? (i := 464) (by decide +kernel), rfl⟩
theorem w_465 : Cond.methodLink "ProxyVotes$Committee" 85 ⟨"ProxyVotes$Committee", "weightOfAll", "()I"⟩ ∈ kWG := List.mem_filter.mpr ⟨List.mem_of_getElem? (i := 465) (by decide +kernel), rfl⟩
theorem w_466 : Cond.methodLink "ProxyVotes" 170 ⟨"ProxyVotes", "sumOf", "(LProxyVotes$Item;I)I"⟩ ∈ kWG := List.mem_filter.mpr ⟨List.mem_of_getElem? (i := 466) (by decide +kernel), rfl⟩
theorem w_468 : Cond.instanceMethod ⟨"ProxyVotes", "sumOf", "(LProxyVotes$Item;I)I"⟩ ∈ kWG := List.mem_filter.mpr ⟨List.mem_of_getElem? (i := 468) (by decide +kernel), rfl⟩
theorem w_469 : Cond.code ⟨"ProxyVotes", "sumOf", "(LProxyVotes$Item;I)I"⟩ prog_1_method_21_code 3 (some FieldType.int) ∈ kWG := List.mem_filter.mpr ⟨List.mem_of_getElem? (i := 469) (by decide +kernel), rfl⟩
theorem w_472 : Cond.instanceMethod ⟨"ProxyVotes$Item", "isPending", "()Z"⟩ ∈ kWG := List.mem_filter.mpr ⟨List.mem_of_getElem? (i := 472) (by decide +kernel), rfl⟩
theorem w_473 : Cond.code ⟨"ProxyVotes$Item", "isPending", "()Z"⟩ prog_5_method_4_code 1 (some FieldType.boolean) ∈ kWG := List.mem_filter.mpr ⟨List.mem_of_getElem? (i := 473) (by decide +kernel), rfl⟩
theorem w_476 : Cond.instanceMethod ⟨"ProxyVotes$Hearing", "tally", "(LProxyVotes$Committee;LProxyVotes$Item;)V"⟩ ∈ kWG := List.mem_filter.mpr ⟨List.mem_of_getElem? (i := 476) (by decide +kernel), rfl⟩
theorem w_477 : Cond.code ⟨"ProxyVotes$Hearing", "tally", "(LProxyVotes$Committee;LProxyVotes$Item;)V"⟩ prog_3_method_8_code 4 none ∈ kWG := List.mem_filter.mpr ⟨List.mem_of_getElem? (i := 477) (by decide +kernel), rfl⟩
theorem w_478 : Cond.methodLink "ProxyVotes$Hearing" 66 ⟨"ProxyVotes$Hearing", "wayOf", "(LProxyVotes$Committee;LProxyVotes$Item;I)I"⟩ ∈ kWG := List.mem_filter.mpr ⟨List.mem_of_getElem? (i := 478) (by decide +kernel), rfl⟩
theorem w_480 : Cond.instanceMethod ⟨"ProxyVotes$Hearing", "wayOf", "(LProxyVotes$Committee;LProxyVotes$Item;I)I"⟩ ∈ kWG := List.mem_filter.mpr ⟨List.mem_of_getElem? (i := 480) (by decide +kernel), rfl⟩
theorem w_481 : Cond.code ⟨"ProxyVotes$Hearing", "wayOf", "(LProxyVotes$Committee;LProxyVotes$Item;I)I"⟩ prog_3_method_7_code 5 (some FieldType.int) ∈ kWG := List.mem_filter.mpr ⟨List.mem_of_getElem? (i := 481) (by decide +kernel), rfl⟩
theorem w_482 : Cond.methodLink "ProxyVotesLaw" 24 ⟨"ProxyVotesLaw", "has", "(II)Z"⟩ ∈ kWG := List.mem_filter.mpr ⟨List.mem_of_getElem? (i := 482) (by decide +kernel), rfl⟩
theorem w_483 : Cond.static ⟨"ProxyVotesLaw", "has", "(II)Z"⟩ ∈ kWG := List.mem_filter.mpr ⟨List.mem_of_getElem? (i := 483) (by decide +kernel), rfl⟩
theorem w_484 : Cond.code ⟨"ProxyVotesLaw", "has", "(II)Z"⟩ method_3_code 2 (some FieldType.boolean) ∈ kWG := List.mem_filter.mpr ⟨List.mem_of_getElem? (i := 484) (by decide +kernel), rfl⟩
theorem w_485 : Cond.methodLink "ProxyVotesLaw" 8 ⟨"ProxyVotes", "at", "(III)I"⟩ ∈ kWG := List.mem_filter.mpr ⟨List.mem_of_getElem? (i := 485) (by decide +kernel), rfl⟩
theorem w_486 : Cond.instanceMethod ⟨"ProxyVotes", "at", "(III)I"⟩ ∈ kWG := List.mem_filter.mpr ⟨List.mem_of_getElem? (i := 486) (by decide +kernel), rfl⟩
theorem w_487 : Cond.selects "ProxyVotes" ⟨"ProxyVotes", "at", "(III)I"⟩ ⟨"ProxyVotes", "at", "(III)I"⟩ ∈ kWG := List.mem_filter.mpr ⟨List.mem_of_getElem? (i := 487) (by decide +kernel), rfl⟩
theorem w_488 : Cond.code ⟨"ProxyVotes", "at", "(III)I"⟩ prog_1_method_19_code 5 (some FieldType.int) ∈ kWG := List.mem_filter.mpr ⟨List.mem_of_getElem? (i := 488) (by decide +kernel), rfl⟩
theorem w_493 : Cond.instanceMethod ⟨"ProxyVotes$Hearing", "spokenForBy", "(LProxyVotes$Committee;I)I"⟩ ∈ kWG := List.mem_filter.mpr ⟨List.mem_of_getElem? (i := 493) (by decide +kernel), rfl⟩
theorem w_494 : Cond.code ⟨"ProxyVotes$Hearing", "spokenForBy", "(LProxyVotes$Committee;I)I"⟩ prog_3_method_5_code 5 (some FieldType.int) ∈ kWG := List.mem_filter.mpr ⟨List.mem_of_getElem? (i := 494) (by decide +kernel), rfl⟩
theorem w_495 : Cond.methodLink "ProxyVotesLaw" 35 ⟨"ProxyVotesLaw", "end", "(LProxyVotes;II)I"⟩ ∈ kWG := List.mem_filter.mpr ⟨List.mem_of_getElem? (i := 495) (by decide +kernel), rfl⟩
theorem w_496 : Cond.static ⟨"ProxyVotesLaw", "end", "(LProxyVotes;II)I"⟩ ∈ kWG := List.mem_filter.mpr ⟨List.mem_of_getElem? (i := 496) (by decide +kernel), rfl⟩
theorem w_497 : Cond.code ⟨"ProxyVotesLaw", "end", "(LProxyVotes;II)I"⟩ method_6_code 6 (some FieldType.int) ∈ kWG := List.mem_filter.mpr ⟨List.mem_of_getElem? (i := 497) (by decide +kernel), rfl⟩
theorem w_498 : Cond.methodLink "ProxyVotesLaw" 18 ⟨"ProxyVotesLaw", "holder", "(LProxyVotes;II)I"⟩ ∈ kWG := List.mem_filter.mpr ⟨List.mem_of_getElem? (i := 498) (by decide +kernel), rfl⟩
theorem w_499 : Cond.static ⟨"ProxyVotesLaw", "holder", "(LProxyVotes;II)I"⟩ ∈ kWG := List.mem_filter.mpr ⟨List.mem_of_getElem? (i := 499) (by decide +kernel), rfl⟩
theorem w_500 : Cond.code ⟨"ProxyVotesLaw", "holder", "(LProxyVotes;II)I"⟩ method_5_code 4 (some FieldType.int) ∈ kWG := List.mem_filter.mpr ⟨List.mem_of_getElem? (i := 500) (by decide +kernel), rfl⟩
theorem w_501 : Cond.methodLink "ProxyVotesLaw" 43 ⟨"ProxyVotesLaw", "sums", "(LProxyVotes;I[I[I)V"⟩ ∈ kWG := List.mem_filter.mpr ⟨List.mem_of_getElem? (i := 501) (by decide +kernel), rfl⟩
theorem w_502 : Cond.static ⟨"ProxyVotesLaw", "sums", "(LProxyVotes;I[I[I)V"⟩ ∈ kWG := List.mem_filter.mpr ⟨List.mem_of_getElem? (i := 502) (by decide +kernel), rfl⟩
theorem w_503 : Cond.code ⟨"ProxyVotesLaw", "sums", "(LProxyVotes;I[I[I)V"⟩ method_8_code 7 none ∈ kWG := List.mem_filter.mpr ⟨List.mem_of_getElem? (i := 503) (by decide +kernel), rfl⟩
theorem w_504 : Cond.constant "ProxyVotesLaw" 38 (1000000) ∈ kWG := List.mem_filter.mpr ⟨List.mem_of_getElem? (i := 504) (by decide +kernel), rfl⟩
theorem w_505 : Cond.methodLink "ProxyVotesLaw" 47 ⟨"ProxyVotesLaw", "there", "(LProxyVotes;[I)I"⟩ ∈ kWG := List.mem_filter.mpr ⟨List.mem_of_getElem? (i := 505) (by decide +kernel), rfl⟩
theorem w_506 : Cond.static ⟨"ProxyVotesLaw", "there", "(LProxyVotes;[I)I"⟩ ∈ kWG := List.mem_filter.mpr ⟨List.mem_of_getElem? (i := 506) (by decide +kernel), rfl⟩
theorem w_507 : Cond.code ⟨"ProxyVotesLaw", "there", "(LProxyVotes;[I)I"⟩ method_10_code 4 (some FieldType.int) ∈ kWG := List.mem_filter.mpr ⟨List.mem_of_getElem? (i := 507) (by decide +kernel), rfl⟩
theorem w_508 : Cond.methodLink "ProxyVotesLaw" 51 ⟨"ProxyVotesLaw", "isQuorum", "(LProxyVotes;I)Z"⟩ ∈ kWG := List.mem_filter.mpr ⟨List.mem_of_getElem? (i := 508) (by decide +kernel), rfl⟩
theorem w_509 : Cond.static ⟨"ProxyVotesLaw", "isQuorum", "(LProxyVotes;I)Z"⟩ ∈ kWG := List.mem_filter.mpr ⟨List.mem_of_getElem? (i := 509) (by decide +kernel), rfl⟩
theorem w_510 : Cond.code ⟨"ProxyVotesLaw", "isQuorum", "(LProxyVotes;I)Z"⟩ method_11_code 2 (some FieldType.boolean) ∈ kWG := List.mem_filter.mpr ⟨List.mem_of_getElem? (i := 510) (by decide +kernel), rfl⟩
theorem w_511 : Cond.methodLink "ProxyVotesLaw" 55 ⟨"ProxyVotes", "wouldBe", "(I)I"⟩ ∈ kWG := List.mem_filter.mpr ⟨List.mem_of_getElem? (i := 511) (by decide +kernel), rfl⟩
theorem w_512 : Cond.instanceMethod ⟨"ProxyVotes", "wouldBe", "(I)I"⟩ ∈ kWG := List.mem_filter.mpr ⟨List.mem_of_getElem? (i := 512) (by decide +kernel), rfl⟩
theorem w_513 : Cond.selects "ProxyVotes" ⟨"ProxyVotes", "wouldBe", "(I)I"⟩ ⟨"ProxyVotes", "wouldBe", "(I)I"⟩ ∈ kWG := List.mem_filter.mpr ⟨List.mem_of_getElem? (i := 513) (by decide +kernel), rfl⟩
theorem w_514 : Cond.code ⟨"ProxyVotes", "wouldBe", "(I)I"⟩ prog_1_method_22_code 3 (some FieldType.int) ∈ kWG := List.mem_filter.mpr ⟨List.mem_of_getElem? (i := 514) (by decide +kernel), rfl⟩
theorem w_517 : Cond.instanceMethod ⟨"ProxyVotes$Hearing", "outcome", "(LProxyVotes$Committee;LProxyVotes$Item;I)I"⟩ ∈ kWG := List.mem_filter.mpr ⟨List.mem_of_getElem? (i := 517) (by decide +kernel), rfl⟩
theorem w_518 : Cond.code ⟨"ProxyVotes$Hearing", "outcome", "(LProxyVotes$Committee;LProxyVotes$Item;I)I"⟩ prog_3_method_9_code 6 (some FieldType.int) ∈ kWG := List.mem_filter.mpr ⟨List.mem_of_getElem? (i := 518) (by decide +kernel), rfl⟩
theorem w_519 : Cond.methodLink "ProxyVotesLaw" 58 ⟨"ProxyVotesLaw", "outcome", "(LProxyVotes;I[I)I"⟩ ∈ kWG := List.mem_filter.mpr ⟨List.mem_of_getElem? (i := 519) (by decide +kernel), rfl⟩
theorem w_520 : Cond.static ⟨"ProxyVotesLaw", "outcome", "(LProxyVotes;I[I)I"⟩ ∈ kWG := List.mem_filter.mpr ⟨List.mem_of_getElem? (i := 520) (by decide +kernel), rfl⟩
theorem w_521 : Cond.code ⟨"ProxyVotesLaw", "outcome", "(LProxyVotes;I[I)I"⟩ method_9_code 6 (some FieldType.int) ∈ kWG := List.mem_filter.mpr ⟨List.mem_of_getElem? (i := 521) (by decide +kernel), rfl⟩
theorem w_522 : Cond.methodLink "ProxyVotesLaw" 146 ⟨"ProxyVotesLaw", "isAct", "(LProxyVotes;[II)Z"⟩ ∈ kWG := List.mem_filter.mpr ⟨List.mem_of_getElem? (i := 522) (by decide +kernel), rfl⟩
theorem w_523 : Cond.static ⟨"ProxyVotesLaw", "isAct", "(LProxyVotes;[II)Z"⟩ ∈ kWG := List.mem_filter.mpr ⟨List.mem_of_getElem? (i := 523) (by decide +kernel), rfl⟩
theorem w_524 : Cond.code ⟨"ProxyVotesLaw", "isAct", "(LProxyVotes;[II)Z"⟩ method_21_code 7 (some FieldType.boolean) ∈ kWG := List.mem_filter.mpr ⟨List.mem_of_getElem? (i := 524) (by decide +kernel), rfl⟩
theorem w_525 : Cond.methodLink "ProxyVotesLaw" 97 ⟨"ProxyVotesLaw", "isTurned", "(LProxyVotes;II)Z"⟩ ∈ kWG := List.mem_filter.mpr ⟨List.mem_of_getElem? (i := 525) (by decide +kernel), rfl⟩
theorem w_526 : Cond.static ⟨"ProxyVotesLaw", "isTurned", "(LProxyVotes;II)Z"⟩ ∈ kWG := List.mem_filter.mpr ⟨List.mem_of_getElem? (i := 526) (by decide +kernel), rfl⟩
theorem w_527 : Cond.code ⟨"ProxyVotesLaw", "isTurned", "(LProxyVotes;II)Z"⟩ method_17_code 9 (some FieldType.boolean) ∈ kWG := List.mem_filter.mpr ⟨List.mem_of_getElem? (i := 527) (by decide +kernel), rfl⟩
theorem w_528 : Cond.methodLink "ProxyVotesLaw" 75 ⟨"ProxyVotes", "come", "(I)I"⟩ ∈ kWG := List.mem_filter.mpr ⟨List.mem_of_getElem? (i := 528) (by decide +kernel), rfl⟩
theorem w_529 : Cond.instanceMethod ⟨"ProxyVotes", "come", "(I)I"⟩ ∈ kWG := List.mem_filter.mpr ⟨List.mem_of_getElem? (i := 529) (by decide +kernel), rfl⟩
theorem w_530 : Cond.selects "ProxyVotes" ⟨"ProxyVotes", "come", "(I)I"⟩ ⟨"ProxyVotes", "come", "(I)I"⟩ ∈ kWG := List.mem_filter.mpr ⟨List.mem_of_getElem? (i := 530) (by decide +kernel), rfl⟩
theorem w_531 : Cond.code ⟨"ProxyVotes", "come", "(I)I"⟩ prog_1_method_6_code 2 (some FieldType.int) ∈ kWG := List.mem_filter.mpr ⟨List.mem_of_getElem? (i := 531) (by decide +kernel), rfl⟩
theorem w_534 : Cond.instanceMethod ⟨"ProxyVotes$Committee", "bringIn", "(I)I"⟩ ∈ kWG := List.mem_filter.mpr ⟨List.mem_of_getElem? (i := 534) (by decide +kernel), rfl⟩
theorem w_535 : Cond.code ⟨"ProxyVotes$Committee", "bringIn", "(I)I"⟩ prog_2_method_20_code 2 (some FieldType.int) ∈ kWG := List.mem_filter.mpr ⟨List.mem_of_getElem? (i := 535) (by decide +kernel), rfl⟩
theorem w_536 : Cond.methodLink "ProxyVotes$Committee" 108 ⟨"java/lang/Integer", "bitCount", "(I)I"⟩ ∈ kWG := List.mem_filter.mpr ⟨List.mem_of_getElem? (i := 536) (by decide +kernel), rfl⟩
theorem w_537 : Cond.static ⟨"java/lang/Integer", "bitCount", "(I)I"⟩ ∈ kWG := List.mem_filter.mpr ⟨List.mem_of_getElem? (i := 537) (by decide +kernel), rfl⟩
theorem w_538 : Cond.code ⟨"java/lang/Integer", "bitCount", "(I)I"⟩ prog_10_method_49_code 1 (some FieldType.int) ∈ kWG := List.mem_filter.mpr ⟨List.mem_of_getElem? (i := 538) (by decide +kernel), rfl⟩
theorem w_539 : Cond.constant "java/lang/Integer" 265 (1431655765) ∈ kWG := List.mem_filter.mpr ⟨List.mem_of_getElem? (i := 539) (by decide +kernel), rfl⟩
theorem w_540 : Cond.constant "java/lang/Integer" 266 (858993459) ∈ kWG := List.mem_filter.mpr ⟨List.mem_of_getElem? (i := 540) (by decide +kernel), rfl⟩
theorem w_541 : Cond.constant "java/lang/Integer" 267 (252645135) ∈ kWG := List.mem_filter.mpr ⟨List.mem_of_getElem? (i := 541) (by decide +kernel), rfl⟩
theorem w_542 : Cond.methodLink "ProxyVotesLaw" 78 ⟨"ProxyVotes", "go", "(I)I"⟩ ∈ kWG := List.mem_filter.mpr ⟨List.mem_of_getElem? (i := 542) (by decide +kernel), rfl⟩
theorem w_543 : Cond.instanceMethod ⟨"ProxyVotes", "go", "(I)I"⟩ ∈ kWG := List.mem_filter.mpr ⟨List.mem_of_getElem? (i := 543) (by decide +kernel), rfl⟩
theorem w_544 : Cond.selects "ProxyVotes" ⟨"ProxyVotes", "go", "(I)I"⟩ ⟨"ProxyVotes", "go", "(I)I"⟩ ∈ kWG := List.mem_filter.mpr ⟨List.mem_of_getElem? (i := 544) (by decide +kernel), rfl⟩
theorem w_545 : Cond.code ⟨"ProxyVotes", "go", "(I)I"⟩ prog_1_method_7_code 2 (some FieldType.int) ∈ kWG := List.mem_filter.mpr ⟨List.mem_of_getElem? (i := 545) (by decide +kernel), rfl⟩
theorem w_548 : Cond.instanceMethod ⟨"ProxyVotes$Committee", "sendAway", "(I)I"⟩ ∈ kWG := List.mem_filter.mpr ⟨List.mem_of_getElem? (i := 548) (by decide +kernel), rfl⟩
theorem w_549 : Cond.code ⟨"ProxyVotes$Committee", "sendAway", "(I)I"⟩ prog_2_method_21_code 2 (some FieldType.int) ∈ kWG := List.mem_filter.mpr ⟨List.mem_of_getElem? (i := 549) (by decide +kernel), rfl⟩
theorem w_550 : Cond.methodLink "ProxyVotesLaw" 81 ⟨"ProxyVotesLaw", "ones", "(I)I"⟩ ∈ kWG := List.mem_filter.mpr ⟨List.mem_of_getElem? (i := 550) (by decide +kernel), rfl⟩
theorem w_551 : Cond.static ⟨"ProxyVotesLaw", "ones", "(I)I"⟩ ∈ kWG := List.mem_filter.mpr ⟨List.mem_of_getElem? (i := 551) (by decide +kernel), rfl⟩
theorem w_552 : Cond.code ⟨"ProxyVotesLaw", "ones", "(I)I"⟩ method_4_code 3 (some FieldType.int) ∈ kWG := List.mem_filter.mpr ⟨List.mem_of_getElem? (i := 552) (by decide +kernel), rfl⟩
theorem w_553 : Cond.methodLink "ProxyVotesLaw" 101 ⟨"ProxyVotesLaw", "isNamed", "(LProxyVotes;III)Z"⟩ ∈ kWG := List.mem_filter.mpr ⟨List.mem_of_getElem? (i := 553) (by decide +kernel), rfl⟩
theorem w_554 : Cond.static ⟨"ProxyVotesLaw", "isNamed", "(LProxyVotes;III)Z"⟩ ∈ kWG := List.mem_filter.mpr ⟨List.mem_of_getElem? (i := 554) (by decide +kernel), rfl⟩
theorem w_555 : Cond.code ⟨"ProxyVotesLaw", "isNamed", "(LProxyVotes;III)Z"⟩ method_18_code 6 (some FieldType.boolean) ∈ kWG := List.mem_filter.mpr ⟨List.mem_of_getElem? (i := 555) (by decide +kernel), rfl⟩
theorem w_556 : Cond.methodLink "ProxyVotesLaw" 84 ⟨"ProxyVotes", "proxy", "(III)I"⟩ ∈ kWG := List.mem_filter.mpr ⟨List.mem_of_getElem? (i := 556) (by decide +kernel), rfl⟩
theorem w_557 : Cond.instanceMethod ⟨"ProxyVotes", "proxy", "(III)I"⟩ ∈ kWG := List.mem_filter.mpr ⟨List.mem_of_getElem? (i := 557) (by decide +kernel), rfl⟩
theorem w_558 : Cond.selects "ProxyVotes" ⟨"ProxyVotes", "proxy", "(III)I"⟩ ⟨"ProxyVotes", "proxy", "(III)I"⟩ ∈ kWG := List.mem_filter.mpr ⟨List.mem_of_getElem? (i := 558) (by decide +kernel), rfl⟩
theorem w_559 : Cond.code ⟨"ProxyVotes", "proxy", "(III)I"⟩ prog_1_method_9_code 4 (some FieldType.int) ∈ kWG := List.mem_filter.mpr ⟨List.mem_of_getElem? (i := 559) (by decide +kernel), rfl⟩
theorem w_562 : Cond.instanceMethod ⟨"ProxyVotes$Committee", "nameHolder", "(III)I"⟩ ∈ kWG := List.mem_filter.mpr ⟨List.mem_of_getElem? (i := 562) (by decide +kernel), rfl⟩
theorem w_563 : Cond.code ⟨"ProxyVotes$Committee", "nameHolder", "(III)I"⟩ prog_2_method_23_code 9 (some FieldType.int) ∈ kWG := List.mem_filter.mpr ⟨List.mem_of_getElem? (i := 563) (by decide +kernel), rfl⟩
theorem w_564 : Cond.methodLink "ProxyVotes$Committee" 121 ⟨"ProxyVotes$Committee", "hasItem", "(I)Z"⟩ ∈ kWG := List.mem_filter.mpr ⟨List.mem_of_getElem? (i := 564) (by decide +kernel), rfl⟩
theorem w_565 : Cond.methodLink "ProxyVotesLaw" 105 ⟨"ProxyVotesLaw", "isTold", "(LProxyVotes;III)Z"⟩ ∈ kWG := List.mem_filter.mpr ⟨List.mem_of_getElem? (i := 565) (by decide +kernel), rfl⟩
theorem w_566 : Cond.static ⟨"ProxyVotesLaw", "isTold", "(LProxyVotes;III)Z"⟩ ∈ kWG := List.mem_filter.mpr ⟨List.mem_of_getElem? (i := 566) (by decide +kernel), rfl⟩
theorem w_567 : Cond.code ⟨"ProxyVotesLaw", "isTold", "(LProxyVotes;III)Z"⟩ method_19_code 6 (some FieldType.boolean) ∈ kWG := List.mem_filter.mpr ⟨List.mem_of_getElem? (i := 567) (by decide +kernel), rfl⟩
theorem w_568 : Cond.methodLink "ProxyVotesLaw" 87 ⟨"ProxyVotes", "tell", "(III)I"⟩ ∈ kWG := List.mem_filter.mpr ⟨List.mem_of_getElem? (i := 568) (by decide +kernel), rfl⟩
theorem w_569 : Cond.instanceMethod ⟨"ProxyVotes", "tell", "(III)I"⟩ ∈ kWG := List.mem_filter.mpr ⟨List.mem_of_getElem? (i := 569) (by decide +kernel), rfl⟩
theorem w_570 : Cond.selects "ProxyVotes" ⟨"ProxyVotes", "tell", "(III)I"⟩ ⟨"ProxyVotes", "tell", "(III)I"⟩ ∈ kWG := List.mem_filter.mpr ⟨List.mem_of_getElem? (i := 570) (by decide +kernel), rfl⟩
theorem w_571 : Cond.code ⟨"ProxyVotes", "tell", "(III)I"⟩ prog_1_method_10_code 4 (some FieldType.int) ∈ kWG := List.mem_filter.mpr ⟨List.mem_of_getElem? (i := 571) (by decide +kernel), rfl⟩
theorem w_574 : Cond.instanceMethod ⟨"ProxyVotes$Committee", "tellChoice", "(III)I"⟩ ∈ kWG := List.mem_filter.mpr ⟨List.mem_of_getElem? (i := 574) (by decide +kernel), rfl⟩
theorem w_575 : Cond.code ⟨"ProxyVotes$Committee", "tellChoice", "(III)I"⟩ prog_2_method_24_code 5 (some FieldType.int) ∈ kWG := List.mem_filter.mpr ⟨List.mem_of_getElem? (i := 575) (by decide +kernel), rfl⟩
theorem w_577 : Cond.static ⟨"ProxyVotes", "isChoice", "(I)Z"⟩ ∈ kWG := List.mem_filter.mpr ⟨List.mem_of_getElem? (i := 577) (by decide +kernel), rfl⟩
theorem w_578 : Cond.code ⟨"ProxyVotes", "isChoice", "(I)Z"⟩ prog_1_method_42_code 1 (some FieldType.boolean) ∈ kWG := List.mem_filter.mpr ⟨List.mem_of_getElem? (i := 578) (by decide +kernel), rfl⟩
theorem w_580 : Cond.methodLink "ProxyVotesLaw" 108 ⟨"ProxyVotesLaw", "isRecused", "(LProxyVotes;III)Z"⟩ ∈ kWG := List.mem_filter.mpr ⟨List.mem_of_getElem? (i := 580) (by decide +kernel), rfl⟩
theorem w_581 : Cond.static ⟨"ProxyVotesLaw", "isRecused", "(LProxyVotes;III)Z"⟩ ∈ kWG := List.mem_filter.mpr ⟨List.mem_of_getElem? (i := 581) (by decide +kernel), rfl⟩
theorem w_582 : Cond.code ⟨"ProxyVotesLaw", "isRecused", "(LProxyVotes;III)Z"⟩ method_20_code 7 (some FieldType.boolean) ∈ kWG := List.mem_filter.mpr ⟨List.mem_of_getElem? (i := 582) (by decide +kernel), rfl⟩
theorem w_583 : Cond.methodLink "ProxyVotesLaw" 90 ⟨"ProxyVotes", "recuse", "(III)I"⟩ ∈ kWG := List.mem_filter.mpr ⟨List.mem_of_getElem? (i := 583) (by decide +kernel), rfl⟩
theorem w_584 : Cond.instanceMethod ⟨"ProxyVotes", "recuse", "(III)I"⟩ ∈ kWG := List.mem_filter.mpr ⟨List.mem_of_getElem? (i := 584) (by decide +kernel), rfl⟩
theorem w_585 : Cond.selects "ProxyVotes" ⟨"ProxyVotes", "recuse", "(III)I"⟩ ⟨"ProxyVotes", "recuse", "(III)I"⟩ ∈ kWG := List.mem_filter.mpr ⟨List.mem_of_getElem? (i := 585) (by decide +kernel), rfl⟩
theorem w_586 : Cond.code ⟨"ProxyVotes", "recuse", "(III)I"⟩ prog_1_method_11_code 4 (some FieldType.int) ∈ kWG := List.mem_filter.mpr ⟨List.mem_of_getElem? (i := 586) (by decide +kernel), rfl⟩
theorem w_589 : Cond.instanceMethod ⟨"ProxyVotes$Committee", "recuseByHand", "(III)I"⟩ ∈ kWG := List.mem_filter.mpr ⟨List.mem_of_getElem? (i := 589) (by decide +kernel), rfl⟩
theorem w_590 : Cond.code ⟨"ProxyVotes$Committee", "recuseByHand", "(III)I"⟩ prog_2_method_25_code 5 (some FieldType.int) ∈ kWG := List.mem_filter.mpr ⟨List.mem_of_getElem? (i := 590) (by decide +kernel), rfl⟩
theorem w_591 : Cond.methodLink "ProxyVotes$Committee" 80 ⟨"ProxyVotes$Committee", "isRecused", "(ILProxyVotes$Item;)Z"⟩ ∈ kWG := List.mem_filter.mpr ⟨List.mem_of_getElem? (i := 591) (by decide +kernel), rfl⟩
theorem w_592 : Cond.methodLink "ProxyVotesLaw" 111 ⟨"ProxyVotesLaw", "isOpened", "(LProxyVotes;I)Z"⟩ ∈ kWG := List.mem_filter.mpr ⟨List.mem_of_getElem? (i := 592) (by decide +kernel), rfl⟩
theorem w_593 : Cond.static ⟨"ProxyVotesLaw", "isOpened", "(LProxyVotes;I)Z"⟩ ∈ kWG := List.mem_filter.mpr ⟨List.mem_of_getElem? (i := 593) (by decide +kernel), rfl⟩
theorem w_594 : Cond.code ⟨"ProxyVotesLaw", "isOpened", "(LProxyVotes;I)Z"⟩ method_13_code 6 (some FieldType.boolean) ∈ kWG := List.mem_filter.mpr ⟨List.mem_of_getElem? (i := 594) (by decide +kernel), rfl⟩
theorem w_595 : Cond.methodLink "ProxyVotesLaw" 62 ⟨"ProxyVotes", "open", "(I)I"⟩ ∈ kWG := List.mem_filter.mpr ⟨List.mem_of_getElem? (i := 595) (by decide +kernel), rfl⟩
theorem w_596 : Cond.instanceMethod ⟨"ProxyVotes", "open", "(I)I"⟩ ∈ kWG := List.mem_filter.mpr ⟨List.mem_of_getElem? (i := 596) (by decide +kernel), rfl⟩
theorem w_597 : Cond.selects "ProxyVotes" ⟨"ProxyVotes", "open", "(I)I"⟩ ⟨"ProxyVotes", "open", "(I)I"⟩ ∈ kWG := List.mem_filter.mpr ⟨List.mem_of_getElem? (i := 597) (by decide +kernel), rfl⟩
theorem w_598 : Cond.code ⟨"ProxyVotes", "open", "(I)I"⟩ prog_1_method_12_code 2 (some FieldType.int) ∈ kWG := List.mem_filter.mpr ⟨List.mem_of_getElem? (i := 598) (by decide +kernel), rfl⟩
theorem w_601 : Cond.instanceMethod ⟨"ProxyVotes$Committee", "openItem", "(ILProxyVotes$Hearing;)I"⟩ ∈ kWG := List.mem_filter.mpr ⟨List.mem_of_getElem? (i := 601) (by decide +kernel), rfl⟩
theorem w_602 : Cond.code ⟨"ProxyVotes$Committee", "openItem", "(ILProxyVotes$Hearing;)I"⟩ prog_2_method_26_code 5 (some FieldType.int) ∈ kWG := List.mem_filter.mpr ⟨List.mem_of_getElem? (i := 602) (by decide +kernel), rfl⟩
theorem w_605 : Cond.methodLink "ProxyVotes$Committee" 144 ⟨"ProxyVotes$Committee", "firstIn", "(I)I"⟩ ∈ kWG := List.mem_filter.mpr ⟨List.mem_of_getElem? (i := 605) (by decide +kernel), rfl⟩
theorem w_606 : Cond.methodLink "ProxyVotes$Committee" 147 ⟨"ProxyVotes$Committee", "isQuorum", "(I)Z"⟩ ∈ kWG := List.mem_filter.mpr ⟨List.mem_of_getElem? (i := 606) (by decide +kernel), rfl⟩
theorem w_607 : Cond.methodLink "ProxyVotesLaw" 114 ⟨"ProxyVotesLaw", "isVoted", "(LProxyVotes;II)Z"⟩ ∈ kWG := List.mem_filter.mpr ⟨List.mem_of_getElem? (i := 607) (by decide +kernel), rfl⟩
theorem w_608 : Cond.static ⟨"ProxyVotesLaw", "isVoted", "(LProxyVotes;II)Z"⟩ ∈ kWG := List.mem_filter.mpr ⟨List.mem_of_getElem? (i := 608) (by decide +kernel), rfl⟩
theorem w_609 : Cond.code ⟨"ProxyVotesLaw", "isVoted", "(LProxyVotes;II)Z"⟩ method_14_code 8 (some FieldType.boolean) ∈ kWG := List.mem_filter.mpr ⟨List.mem_of_getElem? (i := 609) (by decide +kernel), rfl⟩
theorem w_610 : Cond.methodLink "ProxyVotesLaw" 65 ⟨"ProxyVotes", "vote", "(II)I"⟩ ∈ kWG := List.mem_filter.mpr ⟨List.mem_of_getElem? (i := 610) (by decide +kernel), rfl⟩
theorem w_611 : Cond.instanceMethod ⟨"ProxyVotes", "vote", "(II)I"⟩ ∈ kWG := List.mem_filter.mpr ⟨List.mem_of_getElem? (i := 611) (by decide +kernel), rfl⟩
theorem w_612 : Cond.selects "ProxyVotes" ⟨"ProxyVotes", "vote", "(II)I"⟩ ⟨"ProxyVotes", "vote", "(II)I"⟩ ∈ kWG := List.mem_filter.mpr ⟨List.mem_of_getElem? (i := 612) (by decide +kernel), rfl⟩
theorem w_613 : Cond.code ⟨"ProxyVotes", "vote", "(II)I"⟩ prog_1_method_13_code 3 (some FieldType.int) ∈ kWG := List.mem_filter.mpr ⟨List.mem_of_getElem? (i := 613) (by decide +kernel), rfl⟩
theorem w_616 : Cond.instanceMethod ⟨"ProxyVotes$Committee", "giveVote", "(II)I"⟩ ∈ kWG := List.mem_filter.mpr ⟨List.mem_of_getElem? (i := 616) (by decide +kernel), rfl⟩
theorem w_617 : Cond.code ⟨"ProxyVotes$Committee", "giveVote", "(II)I"⟩ prog_2_method_27_code 5 (some FieldType.int) ∈ kWG := List.mem_filter.mpr ⟨List.mem_of_getElem? (i := 617) (by decide +kernel), rfl⟩
theorem w_618 : Cond.methodLink "ProxyVotes$Committee" 150 ⟨"ProxyVotes$Committee", "canVote", "(ILProxyVotes$Item;)Z"⟩ ∈ kWG := List.mem_filter.mpr ⟨List.mem_of_getElem? (i := 618) (by decide +kernel), rfl⟩
theorem w_620 : Cond.instanceMethod ⟨"ProxyVotes$Committee", "canVote", "(ILProxyVotes$Item;)Z"⟩ ∈ kWG := List.mem_filter.mpr ⟨List.mem_of_getElem? (i := 620) (by decide +kernel), rfl⟩
theorem w_621 : Cond.code ⟨"ProxyVotes$Committee", "canVote", "(ILProxyVotes$Item;)Z"⟩ prog_2_method_7_code 3 (some FieldType.boolean) ∈ kWG := List.mem_filter.mpr ⟨List.mem_of_getElem? (i := 621) (by decide +kernel), rfl⟩
theorem w_622 : Cond.methodLink "ProxyVotesLaw" 117 ⟨"ProxyVotesLaw", "isClosed", "(LProxyVotes;)Z"⟩ ∈ kWG := List.mem_filter.mpr ⟨List.mem_of_getElem? (i := 622) (by decide +kernel), rfl⟩
theorem w_623 : Cond.static ⟨"ProxyVotesLaw", "isClosed", "(LProxyVotes;)Z"⟩ ∈ kWG := List.mem_filter.mpr ⟨List.mem_of_getElem? (i := 623) (by decide +kernel), rfl⟩
theorem w_624 : Cond.code ⟨"ProxyVotesLaw", "isClosed", "(LProxyVotes;)Z"⟩ method_15_code 8 (some FieldType.boolean) ∈ kWG := List.mem_filter.mpr ⟨List.mem_of_getElem? (i := 624) (by decide +kernel), rfl⟩
theorem w_625 : Cond.methodLink "ProxyVotesLaw" 68 ⟨"ProxyVotes", "close", "()I"⟩ ∈ kWG := List.mem_filter.mpr ⟨List.mem_of_getElem? (i := 625) (by decide +kernel), rfl⟩
theorem w_626 : Cond.instanceMethod ⟨"ProxyVotes", "close", "()I"⟩ ∈ kWG := List.mem_filter.mpr ⟨List.mem_of_getElem? (i := 626) (by decide +kernel), rfl⟩
theorem w_627 : Cond.selects "ProxyVotes" ⟨"ProxyVotes", "close", "()I"⟩ ⟨"ProxyVotes", "close", "()I"⟩ ∈ kWG := List.mem_filter.mpr ⟨List.mem_of_getElem? (i := 627) (by decide +kernel), rfl⟩
theorem w_628 : Cond.code ⟨"ProxyVotes", "close", "()I"⟩ prog_1_method_14_code 1 (some FieldType.int) ∈ kWG := List.mem_filter.mpr ⟨List.mem_of_getElem? (i := 628) (by decide +kernel), rfl⟩
theorem w_631 : Cond.instanceMethod ⟨"ProxyVotes$Committee", "closeItem", "(LProxyVotes$Hearing;)I"⟩ ∈ kWG := List.mem_filter.mpr ⟨List.mem_of_getElem? (i := 631) (by decide +kernel), rfl⟩
theorem w_632 : Cond.code ⟨"ProxyVotes$Committee", "closeItem", "(LProxyVotes$Hearing;)I"⟩ prog_2_method_28_code 4 (some FieldType.int) ∈ kWG := List.mem_filter.mpr ⟨List.mem_of_getElem? (i := 632) (by decide +kernel), rfl⟩
theorem w_637 : Cond.instanceMethod ⟨"ProxyVotes$Item", "putOff", "()V"⟩ ∈ kWG := List.mem_filter.mpr ⟨List.mem_of_getElem? (i := 637) (by decide +kernel), rfl⟩
theorem w_638 : Cond.code ⟨"ProxyVotes$Item", "putOff", "()V"⟩ prog_5_method_5_code 1 none ∈ kWG := List.mem_filter.mpr ⟨List.mem_of_getElem? (i := 638) (by decide +kernel), rfl⟩
theorem w_639 : Cond.methodLink "ProxyVotesLaw" 121 ⟨"ProxyVotesLaw", "isCast", "(LProxyVotes;I)Z"⟩ ∈ kWG := List.mem_filter.mpr ⟨List.mem_of_getElem? (i := 639) (by decide +kernel), rfl⟩
theorem w_640 : Cond.static ⟨"ProxyVotesLaw", "isCast", "(LProxyVotes;I)Z"⟩ ∈ kWG := List.mem_filter.mpr ⟨List.mem_of_getElem? (i := 640) (by decide +kernel), rfl⟩
theorem w_641 : Cond.code ⟨"ProxyVotesLaw", "isCast", "(LProxyVotes;I)Z"⟩ method_16_code 7 (some FieldType.boolean) ∈ kWG := List.mem_filter.mpr ⟨List.mem_of_getElem? (i := 641) (by decide +kernel), rfl⟩
theorem w_642 : Cond.methodLink "ProxyVotesLaw" 72 ⟨"ProxyVotes", "cast", "(I)I"⟩ ∈ kWG := List.mem_filter.mpr ⟨List.mem_of_getElem? (i := 642) (by decide +kernel), rfl⟩
theorem w_643 : Cond.instanceMethod ⟨"ProxyVotes", "cast", "(I)I"⟩ ∈ kWG := List.mem_filter.mpr ⟨List.mem_of_getElem? (i := 643) (by decide +kernel), rfl⟩
theorem w_644 : Cond.selects "ProxyVotes" ⟨"ProxyVotes", "cast", "(I)I"⟩ ⟨"ProxyVotes", "cast", "(I)I"⟩ ∈ kWG := List.mem_filter.mpr ⟨List.mem_of_getElem? (i := 644) (by decide +kernel), rfl⟩
theorem w_645 : Cond.code ⟨"ProxyVotes", "cast", "(I)I"⟩ prog_1_method_15_code 2 (some FieldType.int) ∈ kWG := List.mem_filter.mpr ⟨List.mem_of_getElem? (i := 645) (by decide +kernel), rfl⟩
theorem w_648 : Cond.instanceMethod ⟨"ProxyVotes$Committee", "breakTie", "(I)I"⟩ ∈ kWG := List.mem_filter.mpr ⟨List.mem_of_getElem? (i := 648) (by decide +kernel), rfl⟩
theorem w_649 : Cond.code ⟨"ProxyVotes$Committee", "breakTie", "(I)I"⟩ prog_2_method_29_code 4 (some FieldType.int) ∈ kWG := List.mem_filter.mpr ⟨List.mem_of_getElem? (i := 649) (by decide +kernel), rfl⟩
theorem w_650 : Cond.methodLink "ProxyVotes$Committee" 167 ⟨"ProxyVotes$Committee", "chairOfTheMoment", "()I"⟩ ∈ kWG := List.mem_filter.mpr ⟨List.mem_of_getElem? (i := 650) (by decide +kernel), rfl⟩
theorem w_651 : Cond.methodLink "ProxyVotesLaw" 124 ⟨"ProxyVotes", "later", "(III)I"⟩ ∈ kWG := List.mem_filter.mpr ⟨List.mem_of_getElem? (i := 651) (by decide +kernel), rfl⟩
theorem w_652 : Cond.instanceMethod ⟨"ProxyVotes", "later", "(III)I"⟩ ∈ kWG := List.mem_filter.mpr ⟨List.mem_of_getElem? (i := 652) (by decide +kernel), rfl⟩
theorem w_653 : Cond.selects "ProxyVotes" ⟨"ProxyVotes", "later", "(III)I"⟩ ⟨"ProxyVotes", "later", "(III)I"⟩ ∈ kWG := List.mem_filter.mpr ⟨List.mem_of_getElem? (i := 653) (by decide +kernel), rfl⟩
theorem w_654 : Cond.code ⟨"ProxyVotes", "later", "(III)I"⟩ prog_1_method_8_code 4 (some FieldType.int) ∈ kWG := List.mem_filter.mpr ⟨List.mem_of_getElem? (i := 654) (by decide +kernel), rfl⟩
theorem w_657 : Cond.instanceMethod ⟨"ProxyVotes$Committee", "addMovement", "(III)I"⟩ ∈ kWG := List.mem_filter.mpr ⟨List.mem_of_getElem? (i := 657) (by decide +kernel), rfl⟩
theorem w_658 : Cond.code ⟨"ProxyVotes$Committee", "addMovement", "(III)I"⟩ prog_2_method_22_code 4 (some FieldType.int) ∈ kWG := List.mem_filter.mpr ⟨List.mem_of_getElem? (i := 658) (by decide +kernel), rfl⟩
theorem w_661 : Cond.instanceMethod ⟨"ProxyVotes$Movements", "append", "(III)V"⟩ ∈ kWG := List.mem_filter.mpr ⟨List.mem_of_getElem? (i := 661) (by decide +kernel), rfl⟩
theorem w_662 : Cond.code ⟨"ProxyVotes$Movements", "append", "(III)V"⟩ prog_6_method_2_code 4 none ∈ kWG := List.mem_filter.mpr ⟨List.mem_of_getElem? (i := 662) (by decide +kernel), rfl⟩
theorem w_663 : Cond.methodLink "ProxyVotesLaw" 127 ⟨"ProxyVotesLaw", "isPassed", "(LProxyVotes;I)Z"⟩ ∈ kWG := List.mem_filter.mpr ⟨List.mem_of_getElem? (i := 663) (by decide +kernel), rfl⟩
theorem w_664 : Cond.static ⟨"ProxyVotesLaw", "isPassed", "(LProxyVotes;I)Z"⟩ ∈ kWG := List.mem_filter.mpr ⟨List.mem_of_getElem? (i := 664) (by decide +kernel), rfl⟩
theorem w_665 : Cond.code ⟨"ProxyVotesLaw", "isPassed", "(LProxyVotes;I)Z"⟩ method_22_code 5 (some FieldType.boolean) ∈ kWG := List.mem_filter.mpr ⟨List.mem_of_getElem? (i := 665) (by decide +kernel), rfl⟩
theorem w_666 : Cond.methodLink "ProxyVotesLaw" 130 ⟨"ProxyVotes", "pass", "(I)I"⟩ ∈ kWG := List.mem_filter.mpr ⟨List.mem_of_getElem? (i := 666) (by decide +kernel), rfl⟩
theorem w_667 : Cond.instanceMethod ⟨"ProxyVotes", "pass", "(I)I"⟩ ∈ kWG := List.mem_filter.mpr ⟨List.mem_of_getElem? (i := 667) (by decide +kernel), rfl⟩
theorem w_668 : Cond.selects "ProxyVotes" ⟨"ProxyVotes", "pass", "(I)I"⟩ ⟨"ProxyVotes", "pass", "(I)I"⟩ ∈ kWG := List.mem_filter.mpr ⟨List.mem_of_getElem? (i := 668) (by decide +kernel), rfl⟩
theorem w_669 : Cond.code ⟨"ProxyVotes", "pass", "(I)I"⟩ prog_1_method_16_code 2 (some FieldType.int) ∈ kWG := List.mem_filter.mpr ⟨List.mem_of_getElem? (i := 669) (by decide +kernel), rfl⟩
theorem w_672 : Cond.instanceMethod ⟨"ProxyVotes$Committee", "letPass", "(I)I"⟩ ∈ kWG := List.mem_filter.mpr ⟨List.mem_of_getElem? (i := 672) (by decide +kernel), rfl⟩
theorem w_673 : Cond.code ⟨"ProxyVotes$Committee", "letPass", "(I)I"⟩ prog_2_method_30_code 2 (some FieldType.int) ∈ kWG := List.mem_filter.mpr ⟨List.mem_of_getElem? (i := 673) (by decide +kernel), rfl⟩
theorem w_674 : Cond.methodLink "ProxyVotes$Committee" 170 ⟨"ProxyVotes$Committee", "moveTo", "(I)V"⟩ ∈ kWG := List.mem_filter.mpr ⟨List.mem_of_getElem? (i := 674) (by decide +kernel), rfl⟩
theorem w_676 : Cond.instanceMethod ⟨"ProxyVotes$Committee", "moveTo", "(I)V"⟩ ∈ kWG := List.mem_filter.mpr ⟨List.mem_of_getElem? (i := 676) (by decide +kernel), rfl⟩
theorem w_677 : Cond.code ⟨"ProxyVotes$Committee", "moveTo", "(I)V"⟩ prog_2_method_31_code 5 none ∈ kWG := List.mem_filter.mpr ⟨List.mem_of_getElem? (i := 677) (by decide +kernel), rfl⟩
theorem w_680 : Cond.instanceMethod ⟨"ProxyVotes$Movements", "next", "()I"⟩ ∈ kWG := List.mem_filter.mpr ⟨List.mem_of_getElem? (i := 680) (by decide +kernel), rfl⟩
theorem w_681 : Cond.code ⟨"ProxyVotes$Movements", "next", "()I"⟩ prog_6_method_3_code 3 (some FieldType.int) ∈ kWG := List.mem_filter.mpr ⟨List.mem_of_getElem? (i := 681) (by decide +kernel), rfl⟩
theorem w_684 : Cond.instanceMethod ⟨"ProxyVotes$Movements", "drop", "(I)V"⟩ ∈ kWG := List.mem_filter.mpr ⟨List.mem_of_getElem? (i := 684) (by decide +kernel), rfl⟩
theorem w_685 : Cond.code ⟨"ProxyVotes$Movements", "drop", "(I)V"⟩ prog_6_method_4_code 3 none ∈ kWG := List.mem_filter.mpr ⟨List.mem_of_getElem? (i := 685) (by decide +kernel), rfl⟩
theorem wn_71 : Cond.methodLinkNest "ProxyVotes" 9 ⟨"ProxyVotes$Committee", "<init>", "()V"⟩ "ProxyVotes" ∈ kNest := List.mem_filter.mpr ⟨List.mem_of_getElem? (i := 71) (by decide +kernel), rfl⟩
theorem wn_79 : Cond.methodLinkNest "ProxyVotes$Committee" 36 ⟨"ProxyVotes$Movements", "<init>", "()V"⟩ "ProxyVotes" ∈ kNest := List.mem_filter.mpr ⟨List.mem_of_getElem? (i := 79) (by decide +kernel), rfl⟩
theorem wn_84 : Cond.fieldLinkNest "ProxyVotes" 231 "ProxyVotes$Movements" "number" "I" "ProxyVotes" ∈ kNest := List.mem_filter.mpr ⟨List.mem_of_getElem? (i := 84) (by decide +kernel), rfl⟩
theorem wn_85 : Cond.fieldLinkNest "ProxyVotes$Committee" 114 "ProxyVotes$Movements" "number" "I" "ProxyVotes" ∈ kNest := List.mem_filter.mpr ⟨List.mem_of_getElem? (i := 85) (by decide +kernel), rfl⟩
theorem wn_87 : Cond.fieldLinkNest "ProxyVotes$Committee" 177 "ProxyVotes$Movements" "minutes" "[I" "ProxyVotes" ∈ kNest := List.mem_filter.mpr ⟨List.mem_of_getElem? (i := 87) (by decide +kernel), rfl⟩
theorem wn_89 : Cond.fieldLinkNest "ProxyVotes$Committee" 180 "ProxyVotes$Movements" "movers" "[I" "ProxyVotes" ∈ kNest := List.mem_filter.mpr ⟨List.mem_of_getElem? (i := 89) (by decide +kernel), rfl⟩
theorem wn_91 : Cond.fieldLinkNest "ProxyVotes$Committee" 183 "ProxyVotes$Movements" "comings" "[I" "ProxyVotes" ∈ kNest := List.mem_filter.mpr ⟨List.mem_of_getElem? (i := 91) (by decide +kernel), rfl⟩
theorem wn_102 : Cond.fieldLinkNest "ProxyVotes$Committee" 41 "ProxyVotes" "FIRST_VALUES" "[I" "ProxyVotes" ∈ kNest := List.mem_filter.mpr ⟨List.mem_of_getElem? (i := 102) (by decide +kernel), rfl⟩
theorem wn_108 : Cond.methodLinkNest "ProxyVotes$Committee" 50 ⟨"ProxyVotes$Item", "<init>", "()V"⟩ "ProxyVotes" ∈ kNest := List.mem_filter.mpr ⟨List.mem_of_getElem? (i := 108) (by decide +kernel), rfl⟩
theorem wn_113 : Cond.fieldLinkNest "ProxyVotes$Hearing" 69 "ProxyVotes$Item" "kind" "I" "ProxyVotes" ∈ kNest := List.mem_filter.mpr ⟨List.mem_of_getElem? (i := 113) (by decide +kernel), rfl⟩
theorem wn_114 : Cond.fieldLinkNest "ProxyVotes" 141 "ProxyVotes$Item" "kind" "I" "ProxyVotes" ∈ kNest := List.mem_filter.mpr ⟨List.mem_of_getElem? (i := 114) (by decide +kernel), rfl⟩
theorem wn_116 : Cond.fieldLinkNest "ProxyVotes$Committee" 70 "ProxyVotes$Item" "touched" "I" "ProxyVotes" ∈ kNest := List.mem_filter.mpr ⟨List.mem_of_getElem? (i := 116) (by decide +kernel), rfl⟩
theorem wn_117 : Cond.fieldLinkNest "ProxyVotes" 147 "ProxyVotes$Item" "touched" "I" "ProxyVotes" ∈ kNest := List.mem_filter.mpr ⟨List.mem_of_getElem? (i := 117) (by decide +kernel), rfl⟩
theorem wn_119 : Cond.fieldLinkNest "ProxyVotes$Committee" 89 "ProxyVotes$Item" "state" "I" "ProxyVotes" ∈ kNest := List.mem_filter.mpr ⟨List.mem_of_getElem? (i := 119) (by decide +kernel), rfl⟩
theorem wn_120 : Cond.fieldLinkNest "ProxyVotes" 150 "ProxyVotes$Item" "state" "I" "ProxyVotes" ∈ kNest := List.mem_filter.mpr ⟨List.mem_of_getElem? (i := 120) (by decide +kernel), rfl⟩
theorem wn_122 : Cond.fieldLinkNest "ProxyVotes$Committee" 73 "ProxyVotes$Item" "recusedByHand" "I" "ProxyVotes" ∈ kNest := List.mem_filter.mpr ⟨List.mem_of_getElem? (i := 122) (by decide +kernel), rfl⟩
theorem wn_124 : Cond.fieldLinkNest "ProxyVotes$Committee" 95 "ProxyVotes$Item" "breaker" "I" "ProxyVotes" ∈ kNest := List.mem_filter.mpr ⟨List.mem_of_getElem? (i := 124) (by decide +kernel), rfl⟩
theorem wn_125 : Cond.fieldLinkNest "ProxyVotes" 153 "ProxyVotes$Item" "breaker" "I" "ProxyVotes" ∈ kNest := List.mem_filter.mpr ⟨List.mem_of_getElem? (i := 125) (by decide +kernel), rfl⟩
theorem wn_127 : Cond.fieldLinkNest "ProxyVotes" 156 "ProxyVotes$Item" "timesPutOff" "I" "ProxyVotes" ∈ kNest := List.mem_filter.mpr ⟨List.mem_of_getElem? (i := 127) (by decide +kernel), rfl⟩
theorem wn_129 : Cond.fieldLinkNest "ProxyVotes" 246 "ProxyVotes$Item" "sums" "[I" "ProxyVotes" ∈ kNest := List.mem_filter.mpr ⟨List.mem_of_getElem? (i := 129) (by decide +kernel), rfl⟩
theorem wn_130 : Cond.fieldLinkNest "ProxyVotes$Committee" 159 "ProxyVotes$Item" "sums" "[I" "ProxyVotes" ∈ kNest := List.mem_filter.mpr ⟨List.mem_of_getElem? (i := 130) (by decide +kernel), rfl⟩
theorem wn_132 : Cond.fieldLinkNest "ProxyVotes$Hearing" 58 "ProxyVotes$Item" "votes" "[I" "ProxyVotes" ∈ kNest := List.mem_filter.mpr ⟨List.mem_of_getElem? (i := 132) (by decide +kernel), rfl⟩
theorem wn_133 : Cond.fieldLinkNest "ProxyVotes$Committee" 92 "ProxyVotes$Item" "votes" "[I" "ProxyVotes" ∈ kNest := List.mem_filter.mpr ⟨List.mem_of_getElem? (i := 133) (by decide +kernel), rfl⟩
theorem wn_134 : Cond.fieldLinkNest "ProxyVotes" 177 "ProxyVotes$Item" "votes" "[I" "ProxyVotes" ∈ kNest := List.mem_filter.mpr ⟨List.mem_of_getElem? (i := 134) (by decide +kernel), rfl⟩
theorem wn_136 : Cond.fieldLinkNest "ProxyVotes$Hearing" 63 "ProxyVotes$Item" "told" "[I" "ProxyVotes" ∈ kNest := List.mem_filter.mpr ⟨List.mem_of_getElem? (i := 136) (by decide +kernel), rfl⟩
theorem wn_137 : Cond.fieldLinkNest "ProxyVotes" 180 "ProxyVotes$Item" "told" "[I" "ProxyVotes" ∈ kNest := List.mem_filter.mpr ⟨List.mem_of_getElem? (i := 137) (by decide +kernel), rfl⟩
theorem wn_138 : Cond.fieldLinkNest "ProxyVotes$Committee" 131 "ProxyVotes$Item" "told" "[I" "ProxyVotes" ∈ kNest := List.mem_filter.mpr ⟨List.mem_of_getElem? (i := 138) (by decide +kernel), rfl⟩
theorem wn_140 : Cond.fieldLinkNest "ProxyVotes$Committee" 84 "ProxyVotes$Item" "holders" "[I" "ProxyVotes" ∈ kNest := List.mem_filter.mpr ⟨List.mem_of_getElem? (i := 140) (by decide +kernel), rfl⟩
theorem wn_141 : Cond.fieldLinkNest "ProxyVotes" 187 "ProxyVotes$Item" "holders" "[I" "ProxyVotes" ∈ kNest := List.mem_filter.mpr ⟨List.mem_of_getElem? (i := 141) (by decide +kernel), rfl⟩
theorem wn_164 : Cond.fieldLinkNest "ProxyVotes" 202 "ProxyVotes$Committee" "minute" "I" "ProxyVotes" ∈ kNest := List.mem_filter.mpr ⟨List.mem_of_getElem? (i := 164) (by decide +kernel), rfl⟩
theorem wn_166 : Cond.fieldLinkNest "ProxyVotes$Hearing" 27 "ProxyVotes$Committee" "memberCount" "I" "ProxyVotes" ∈ kNest := List.mem_filter.mpr ⟨List.mem_of_getElem? (i := 166) (by decide +kernel), rfl⟩
theorem wn_167 : Cond.fieldLinkNest "ProxyVotes" 205 "ProxyVotes$Committee" "memberCount" "I" "ProxyVotes" ∈ kNest := List.mem_filter.mpr ⟨List.mem_of_getElem? (i := 167) (by decide +kernel), rfl⟩
theorem wn_169 : Cond.fieldLinkNest "ProxyVotes" 208 "ProxyVotes$Committee" "itemCount" "I" "ProxyVotes" ∈ kNest := List.mem_filter.mpr ⟨List.mem_of_getElem? (i := 169) (by decide +kernel), rfl⟩
theorem wn_171 : Cond.fieldLinkNest "ProxyVotes" 211 "ProxyVotes$Committee" "present" "I" "ProxyVotes" ∈ kNest := List.mem_filter.mpr ⟨List.mem_of_getElem? (i := 171) (by decide +kernel), rfl⟩
theorem wn_173 : Cond.fieldLinkNest "ProxyVotes" 217 "ProxyVotes$Committee" "chairNamed" "I" "ProxyVotes" ∈ kNest := List.mem_filter.mpr ⟨List.mem_of_getElem? (i := 173) (by decide +kernel), rfl⟩
theorem wn_175 : Cond.fieldLinkNest "ProxyVotes$Hearing" 48 "ProxyVotes$Committee" "settings" "[I" "ProxyVotes" ∈ kNest := List.mem_filter.mpr ⟨List.mem_of_getElem? (i := 175) (by decide +kernel), rfl⟩
theorem wn_176 : Cond.fieldLinkNest "ProxyVotes" 199 "ProxyVotes$Committee" "settings" "[I" "ProxyVotes" ∈ kNest := List.mem_filter.mpr ⟨List.mem_of_getElem? (i := 176) (by decide +kernel), rfl⟩
theorem wn_178 : Cond.fieldLinkNest "ProxyVotes$Hearing" 55 "ProxyVotes$Committee" "weights" "[I" "ProxyVotes" ∈ kNest := List.mem_filter.mpr ⟨List.mem_of_getElem? (i := 178) (by decide +kernel), rfl⟩
theorem wn_179 : Cond.fieldLinkNest "ProxyVotes" 116 "ProxyVotes$Committee" "weights" "[I" "ProxyVotes" ∈ kNest := List.mem_filter.mpr ⟨List.mem_of_getElem? (i := 179) (by decide +kernel), rfl⟩
theorem wn_181 : Cond.fieldLinkNest "ProxyVotes" 119 "ProxyVotes$Committee" "groups" "[I" "ProxyVotes" ∈ kNest := List.mem_filter.mpr ⟨List.mem_of_getElem? (i := 181) (by decide +kernel), rfl⟩
theorem wn_183 : Cond.fieldLinkNest "ProxyVotes" 125 "ProxyVotes$Committee" "holders" "[I" "ProxyVotes" ∈ kNest := List.mem_filter.mpr ⟨List.mem_of_getElem? (i := 183) (by decide +kernel), rfl⟩
theorem wn_185 : Cond.fieldLinkNest "ProxyVotes" 137 "ProxyVotes$Committee" "items" "[LProxyVotes$Item;" "ProxyVotes" ∈ kNest := List.mem_filter.mpr ⟨List.mem_of_getElem? (i := 185) (by decide +kernel), rfl⟩
theorem wn_187 : Cond.fieldLinkNest "ProxyVotes" 227 "ProxyVotes$Committee" "movements" "LProxyVotes$Movements;" "ProxyVotes" ∈ kNest := List.mem_filter.mpr ⟨List.mem_of_getElem? (i := 187) (by decide +kernel), rfl⟩
theorem wn_213 : Cond.methodLinkNest "ProxyVotes" 21 ⟨"ProxyVotes$Hearing", "<init>", "()V"⟩ "ProxyVotes" ∈ kNest := List.mem_filter.mpr ⟨List.mem_of_getElem? (i := 213) (by decide +kernel), rfl⟩
theorem wn_218 : Cond.fieldLinkNest "ProxyVotes" 174 "ProxyVotes$Hearing" "speakers" "[I" "ProxyVotes" ∈ kNest := List.mem_filter.mpr ⟨List.mem_of_getElem? (i := 218) (by decide +kernel), rfl⟩
theorem wn_221 : Cond.fieldLinkNest "ProxyVotes" 252 "ProxyVotes$Hearing" "sums" "[I" "ProxyVotes" ∈ kNest := List.mem_filter.mpr ⟨List.mem_of_getElem? (i := 221) (by decide +kernel), rfl⟩
theorem wn_222 : Cond.fieldLinkNest "ProxyVotes$Committee" 156 "ProxyVotes$Hearing" "sums" "[I" "ProxyVotes" ∈ kNest := List.mem_filter.mpr ⟨List.mem_of_getElem? (i := 222) (by decide +kernel), rfl⟩
theorem wn_232 : Cond.methodLinkNest "ProxyVotes" 28 ⟨"ProxyVotes$History", "<init>", "()V"⟩ "ProxyVotes" ∈ kNest := List.mem_filter.mpr ⟨List.mem_of_getElem? (i := 232) (by decide +kernel), rfl⟩
theorem wn_238 : Cond.methodLinkNest "ProxyVotes$History" 17 ⟨"ProxyVotes$Committee", "<init>", "()V"⟩ "ProxyVotes" ∈ kNest := List.mem_filter.mpr ⟨List.mem_of_getElem? (i := 238) (by decide +kernel), rfl⟩
theorem wn_242 : Cond.fieldLinkNest "ProxyVotes" 239 "ProxyVotes$History" "kept" "I" "ProxyVotes" ∈ kNest := List.mem_filter.mpr ⟨List.mem_of_getElem? (i := 242) (by decide +kernel), rfl⟩
theorem wn_252 : Cond.methodLinkNest "ProxyVotes" 35 ⟨"ProxyVotes$Pad", "<init>", "()V"⟩ "ProxyVotes" ∈ kNest := List.mem_filter.mpr ⟨List.mem_of_getElem? (i := 252) (by decide +kernel), rfl⟩
theorem wn_257 : Cond.fieldLinkNest "ProxyVotes" 236 "ProxyVotes$Pad" "length" "I" "ProxyVotes" ∈ kNest := List.mem_filter.mpr ⟨List.mem_of_getElem? (i := 257) (by decide +kernel), rfl⟩
theorem wn_310 : Cond.methodLinkNest "ProxyVotes" 55 ⟨"ProxyVotes$History", "note", "(LProxyVotes$Committee;)V"⟩ "ProxyVotes" ∈ kNest := List.mem_filter.mpr ⟨List.mem_of_getElem? (i := 310) (by decide +kernel), rfl⟩
theorem wn_314 : Cond.methodLinkNest "ProxyVotes$History" 22 ⟨"ProxyVotes$Committee", "copyFrom", "(LProxyVotes$Committee;)V"⟩ "ProxyVotes" ∈ kNest := List.mem_filter.mpr ⟨List.mem_of_getElem? (i := 314) (by decide +kernel), rfl⟩
theorem wn_318 : Cond.methodLinkNest "ProxyVotes$Committee" 63 ⟨"ProxyVotes$Item", "copyFrom", "(LProxyVotes$Item;)V"⟩ "ProxyVotes" ∈ kNest := List.mem_filter.mpr ⟨List.mem_of_getElem? (i := 318) (by decide +kernel), rfl⟩
theorem wn_323 : Cond.methodLinkNest "ProxyVotes$Committee" 67 ⟨"ProxyVotes$Movements", "copyFrom", "(LProxyVotes$Movements;)V"⟩ "ProxyVotes" ∈ kNest := List.mem_filter.mpr ⟨List.mem_of_getElem? (i := 323) (by decide +kernel), rfl⟩
theorem wn_328 : Cond.methodLinkNest "ProxyVotes" 59 ⟨"ProxyVotes$Committee", "changeSetting", "(II)I"⟩ "ProxyVotes" ∈ kNest := List.mem_filter.mpr ⟨List.mem_of_getElem? (i := 328) (by decide +kernel), rfl⟩
theorem wn_332 : Cond.fieldLinkNest "ProxyVotes$Committee" 98 "ProxyVotes" "HIGHEST_VALUES" "[I" "ProxyVotes" ∈ kNest := List.mem_filter.mpr ⟨List.mem_of_getElem? (i := 332) (by decide +kernel), rfl⟩
theorem wn_334 : Cond.methodLinkNest "ProxyVotes" 63 ⟨"ProxyVotes$History", "settle", "(I)I"⟩ "ProxyVotes" ∈ kNest := List.mem_filter.mpr ⟨List.mem_of_getElem? (i := 334) (by decide +kernel), rfl⟩
theorem wn_338 : Cond.methodLinkNest "ProxyVotes$History" 26 ⟨"ProxyVotes", "isError", "(I)Z"⟩ "ProxyVotes" ∈ kNest := List.mem_filter.mpr ⟨List.mem_of_getElem? (i := 338) (by decide +kernel), rfl⟩
theorem wn_348 : Cond.methodLinkNest "ProxyVotes" 67 ⟨"ProxyVotes$Committee", "addMember", "(II)I"⟩ "ProxyVotes" ∈ kNest := List.mem_filter.mpr ⟨List.mem_of_getElem? (i := 348) (by decide +kernel), rfl⟩
theorem wn_356 : Cond.methodLinkNest "ProxyVotes" 70 ⟨"ProxyVotes$Committee", "addItem", "(II)I"⟩ "ProxyVotes" ∈ kNest := List.mem_filter.mpr ⟨List.mem_of_getElem? (i := 356) (by decide +kernel), rfl⟩
theorem wn_360 : Cond.methodLinkNest "ProxyVotes$Committee" 101 ⟨"ProxyVotes$Item", "begin", "(II)V"⟩ "ProxyVotes" ∈ kNest := List.mem_filter.mpr ⟨List.mem_of_getElem? (i := 360) (by decide +kernel), rfl⟩
theorem wn_371 : Cond.methodLinkNest "ProxyVotes" 73 ⟨"ProxyVotes$Committee", "nameChair", "(I)I"⟩ "ProxyVotes" ∈ kNest := List.mem_filter.mpr ⟨List.mem_of_getElem? (i := 371) (by decide +kernel), rfl⟩
theorem wn_383 : Cond.methodLinkNest "ProxyVotes" 112 ⟨"ProxyVotes$Committee", "hasMember", "(I)Z"⟩ "ProxyVotes" ∈ kNest := List.mem_filter.mpr ⟨List.mem_of_getElem? (i := 383) (by decide +kernel), rfl⟩
theorem wn_384 : Cond.methodLinkNest "ProxyVotes" 122 ⟨"ProxyVotes$Committee", "isPresent", "(I)Z"⟩ "ProxyVotes" ∈ kNest := List.mem_filter.mpr ⟨List.mem_of_getElem? (i := 384) (by decide +kernel), rfl⟩
theorem wn_388 : Cond.methodLinkNest "ProxyVotes" 128 ⟨"ProxyVotes$Committee", "votesOf", "(I)I"⟩ "ProxyVotes" ∈ kNest := List.mem_filter.mpr ⟨List.mem_of_getElem? (i := 388) (by decide +kernel), rfl⟩
theorem wn_392 : Cond.methodLinkNest "ProxyVotes" 131 ⟨"ProxyVotes$Committee", "tiesBrokenBy", "(I)I"⟩ "ProxyVotes" ∈ kNest := List.mem_filter.mpr ⟨List.mem_of_getElem? (i := 392) (by decide +kernel), rfl⟩
theorem wn_400 : Cond.methodLinkNest "ProxyVotes" 196 ⟨"ProxyVotes$Committee", "itemsIn", "(I)I"⟩ "ProxyVotes" ∈ kNest := List.mem_filter.mpr ⟨List.mem_of_getElem? (i := 400) (by decide +kernel), rfl⟩
theorem wn_404 : Cond.methodLinkNest "ProxyVotes" 214 ⟨"ProxyVotes$Committee", "firstIn", "(I)I"⟩ "ProxyVotes" ∈ kNest := List.mem_filter.mpr ⟨List.mem_of_getElem? (i := 404) (by decide +kernel), rfl⟩
theorem wn_408 : Cond.methodLinkNest "ProxyVotes" 220 ⟨"ProxyVotes$Committee", "chairOfTheMoment", "()I"⟩ "ProxyVotes" ∈ kNest := List.mem_filter.mpr ⟨List.mem_of_getElem? (i := 408) (by decide +kernel), rfl⟩
theorem wn_413 : Cond.methodLinkNest "ProxyVotes" 224 ⟨"ProxyVotes$Committee", "weightOfAll", "()I"⟩ "ProxyVotes" ∈ kNest := List.mem_filter.mpr ⟨List.mem_of_getElem? (i := 413) (by decide +kernel), rfl⟩
theorem wn_431 : Cond.methodLinkNest "ProxyVotes" 134 ⟨"ProxyVotes$Committee", "hasItem", "(I)Z"⟩ "ProxyVotes" ∈ kNest := List.mem_filter.mpr ⟨List.mem_of_getElem? (i := 431) (by decide +kernel), rfl⟩
theorem wn_435 : Cond.methodLinkNest "ProxyVotes" 159 ⟨"ProxyVotes$Hearing", "listen", "(LProxyVotes$Committee;LProxyVotes$Item;)V"⟩ "ProxyVotes" ∈ kNest := List.mem_filter.mpr ⟨List.mem_of_getElem? (i := 435) (by decide +kernel), rfl⟩
theorem wn_440 : Cond.methodLinkNest "ProxyVotes$Hearing" 33 ⟨"ProxyVotes$Committee", "isRecused", "(ILProxyVotes$Item;)Z"⟩ "ProxyVotes" ∈ kNest := List.mem_filter.mpr ⟨List.mem_of_getElem? (i := 440) (by decide +kernel), rfl⟩
theorem wn_444 : Cond.methodLinkNest "ProxyVotes$Hearing" 37 ⟨"ProxyVotes$Committee", "isPresent", "(I)Z"⟩ "ProxyVotes" ∈ kNest := List.mem_filter.mpr ⟨List.mem_of_getElem? (i := 444) (by decide +kernel), rfl⟩
theorem wn_453 : Cond.methodLinkNest "ProxyVotes$Hearing" 51 ⟨"ProxyVotes$Committee", "holderFor", "(ILProxyVotes$Item;)I"⟩ "ProxyVotes" ∈ kNest := List.mem_filter.mpr ⟨List.mem_of_getElem? (i := 453) (by decide +kernel), rfl⟩
theorem wn_457 : Cond.methodLinkNest "ProxyVotes" 163 ⟨"ProxyVotes$Hearing", "weightThere", "(LProxyVotes$Committee;)I"⟩ "ProxyVotes" ∈ kNest := List.mem_filter.mpr ⟨List.mem_of_getElem? (i := 457) (by decide +kernel), rfl⟩
theorem wn_461 : Cond.methodLinkNest "ProxyVotes" 167 ⟨"ProxyVotes$Committee", "isQuorum", "(I)Z"⟩ "ProxyVotes" ∈ kNest := List.mem_filter.mpr ⟨List.mem_of_getElem? (i := 461) (by decide +kernel), rfl⟩
theorem wn_470 : Cond.methodLinkNest "ProxyVotes" 242 ⟨"ProxyVotes$Item", "isPending", "()Z"⟩ "ProxyVotes" ∈ kNest := List.mem_filter.mpr ⟨List.mem_of_getElem? (i := 470) (by decide +kernel), rfl⟩
theorem wn_474 : Cond.methodLinkNest "ProxyVotes" 249 ⟨"ProxyVotes$Hearing", "tally", "(LProxyVotes$Committee;LProxyVotes$Item;)V"⟩ "ProxyVotes" ∈ kNest := List.mem_filter.mpr ⟨List.mem_of_getElem? (i := 474) (by decide +kernel), rfl⟩
theorem wn_489 : Cond.methodLinkNest "ProxyVotes" 183 ⟨"ProxyVotes$Hearing", "wayOf", "(LProxyVotes$Committee;LProxyVotes$Item;I)I"⟩ "ProxyVotes" ∈ kNest := List.mem_filter.mpr ⟨List.mem_of_getElem? (i := 489) (by decide +kernel), rfl⟩
theorem wn_490 : Cond.methodLinkNest "ProxyVotes" 188 ⟨"ProxyVotes$Committee", "isRecused", "(ILProxyVotes$Item;)Z"⟩ "ProxyVotes" ∈ kNest := List.mem_filter.mpr ⟨List.mem_of_getElem? (i := 490) (by decide +kernel), rfl⟩
theorem wn_491 : Cond.methodLinkNest "ProxyVotes" 192 ⟨"ProxyVotes$Hearing", "spokenForBy", "(LProxyVotes$Committee;I)I"⟩ "ProxyVotes" ∈ kNest := List.mem_filter.mpr ⟨List.mem_of_getElem? (i := 491) (by decide +kernel), rfl⟩
theorem wn_515 : Cond.methodLinkNest "ProxyVotes" 253 ⟨"ProxyVotes$Hearing", "outcome", "(LProxyVotes$Committee;LProxyVotes$Item;I)I"⟩ "ProxyVotes" ∈ kNest := List.mem_filter.mpr ⟨List.mem_of_getElem? (i := 515) (by decide +kernel), rfl⟩
theorem wn_532 : Cond.methodLinkNest "ProxyVotes" 76 ⟨"ProxyVotes$Committee", "bringIn", "(I)I"⟩ "ProxyVotes" ∈ kNest := List.mem_filter.mpr ⟨List.mem_of_getElem? (i := 532) (by decide +kernel), rfl⟩
theorem wn_546 : Cond.methodLinkNest "ProxyVotes" 79 ⟨"ProxyVotes$Committee", "sendAway", "(I)I"⟩ "ProxyVotes" ∈ kNest := List.mem_filter.mpr ⟨List.mem_of_getElem? (i := 546) (by decide +kernel), rfl⟩
theorem wn_560 : Cond.methodLinkNest "ProxyVotes" 86 ⟨"ProxyVotes$Committee", "nameHolder", "(III)I"⟩ "ProxyVotes" ∈ kNest := List.mem_filter.mpr ⟨List.mem_of_getElem? (i := 560) (by decide +kernel), rfl⟩
theorem wn_572 : Cond.methodLinkNest "ProxyVotes" 89 ⟨"ProxyVotes$Committee", "tellChoice", "(III)I"⟩ "ProxyVotes" ∈ kNest := List.mem_filter.mpr ⟨List.mem_of_getElem? (i := 572) (by decide +kernel), rfl⟩
theorem wn_576 : Cond.methodLinkNest "ProxyVotes$Committee" 124 ⟨"ProxyVotes", "isChoice", "(I)Z"⟩ "ProxyVotes" ∈ kNest := List.mem_filter.mpr ⟨List.mem_of_getElem? (i := 576) (by decide +kernel), rfl⟩
theorem wn_579 : Cond.methodLinkNest "ProxyVotes$Committee" 127 ⟨"ProxyVotes$Item", "isPending", "()Z"⟩ "ProxyVotes" ∈ kNest := List.mem_filter.mpr ⟨List.mem_of_getElem? (i := 579) (by decide +kernel), rfl⟩
theorem wn_587 : Cond.methodLinkNest "ProxyVotes" 92 ⟨"ProxyVotes$Committee", "recuseByHand", "(III)I"⟩ "ProxyVotes" ∈ kNest := List.mem_filter.mpr ⟨List.mem_of_getElem? (i := 587) (by decide +kernel), rfl⟩
theorem wn_599 : Cond.methodLinkNest "ProxyVotes" 95 ⟨"ProxyVotes$Committee", "openItem", "(ILProxyVotes$Hearing;)I"⟩ "ProxyVotes" ∈ kNest := List.mem_filter.mpr ⟨List.mem_of_getElem? (i := 599) (by decide +kernel), rfl⟩
theorem wn_603 : Cond.methodLinkNest "ProxyVotes$Committee" 134 ⟨"ProxyVotes$Hearing", "listen", "(LProxyVotes$Committee;LProxyVotes$Item;)V"⟩ "ProxyVotes" ∈ kNest := List.mem_filter.mpr ⟨List.mem_of_getElem? (i := 603) (by decide +kernel), rfl⟩
theorem wn_604 : Cond.methodLinkNest "ProxyVotes$Committee" 140 ⟨"ProxyVotes$Hearing", "weightThere", "(LProxyVotes$Committee;)I"⟩ "ProxyVotes" ∈ kNest := List.mem_filter.mpr ⟨List.mem_of_getElem? (i := 604) (by decide +kernel), rfl⟩
theorem wn_614 : Cond.methodLinkNest "ProxyVotes" 99 ⟨"ProxyVotes$Committee", "giveVote", "(II)I"⟩ "ProxyVotes" ∈ kNest := List.mem_filter.mpr ⟨List.mem_of_getElem? (i := 614) (by decide +kernel), rfl⟩
theorem wn_629 : Cond.methodLinkNest "ProxyVotes" 102 ⟨"ProxyVotes$Committee", "closeItem", "(LProxyVotes$Hearing;)I"⟩ "ProxyVotes" ∈ kNest := List.mem_filter.mpr ⟨List.mem_of_getElem? (i := 629) (by decide +kernel), rfl⟩
theorem wn_633 : Cond.methodLinkNest "ProxyVotes$Committee" 153 ⟨"ProxyVotes$Hearing", "tally", "(LProxyVotes$Committee;LProxyVotes$Item;)V"⟩ "ProxyVotes" ∈ kNest := List.mem_filter.mpr ⟨List.mem_of_getElem? (i := 633) (by decide +kernel), rfl⟩
theorem wn_634 : Cond.methodLinkNest "ProxyVotes$Committee" 160 ⟨"ProxyVotes$Hearing", "outcome", "(LProxyVotes$Committee;LProxyVotes$Item;I)I"⟩ "ProxyVotes" ∈ kNest := List.mem_filter.mpr ⟨List.mem_of_getElem? (i := 634) (by decide +kernel), rfl⟩
theorem wn_635 : Cond.methodLinkNest "ProxyVotes$Committee" 164 ⟨"ProxyVotes$Item", "putOff", "()V"⟩ "ProxyVotes" ∈ kNest := List.mem_filter.mpr ⟨List.mem_of_getElem? (i := 635) (by decide +kernel), rfl⟩
theorem wn_646 : Cond.methodLinkNest "ProxyVotes" 106 ⟨"ProxyVotes$Committee", "breakTie", "(I)I"⟩ "ProxyVotes" ∈ kNest := List.mem_filter.mpr ⟨List.mem_of_getElem? (i := 646) (by decide +kernel), rfl⟩
theorem wn_655 : Cond.methodLinkNest "ProxyVotes" 82 ⟨"ProxyVotes$Committee", "addMovement", "(III)I"⟩ "ProxyVotes" ∈ kNest := List.mem_filter.mpr ⟨List.mem_of_getElem? (i := 655) (by decide +kernel), rfl⟩
theorem wn_659 : Cond.methodLinkNest "ProxyVotes$Committee" 117 ⟨"ProxyVotes$Movements", "append", "(III)V"⟩ "ProxyVotes" ∈ kNest := List.mem_filter.mpr ⟨List.mem_of_getElem? (i := 659) (by decide +kernel), rfl⟩
theorem wn_670 : Cond.methodLinkNest "ProxyVotes" 109 ⟨"ProxyVotes$Committee", "letPass", "(I)I"⟩ "ProxyVotes" ∈ kNest := List.mem_filter.mpr ⟨List.mem_of_getElem? (i := 670) (by decide +kernel), rfl⟩
theorem wn_678 : Cond.methodLinkNest "ProxyVotes$Committee" 174 ⟨"ProxyVotes$Movements", "next", "()I"⟩ "ProxyVotes" ∈ kNest := List.mem_filter.mpr ⟨List.mem_of_getElem? (i := 678) (by decide +kernel), rfl⟩
theorem wn_682 : Cond.methodLinkNest "ProxyVotes$Committee" 186 ⟨"ProxyVotes$Movements", "drop", "(I)V"⟩ "ProxyVotes" ∈ kNest := List.mem_filter.mpr ⟨List.mem_of_getElem? (i := 682) (by decide +kernel), rfl⟩
