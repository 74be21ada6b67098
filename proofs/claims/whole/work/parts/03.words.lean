/-! names and words, by program out of the tables -/
def R_Chain : String := "MarkedChains$Chain"
def R_Route : String := "MarkedChains$Route"
def R_Int : String := "java/lang/Integer"
def R_Arr : String := "java/util/Arrays"
def R_Str : String := "java/lang/String"
def R_SL1 : String := "java/lang/StringLatin1"
def R_Pre : String := "jdk/internal/util/Preconditions"
abbrev b_MC_init : ByteArray := prog_1_method_1_code
def y_MC_init : MethodName := ⟨"MarkedChains", "<init>", "()V"⟩
abbrev b_Obj_init : ByteArray := object_method_1_code
def y_Obj_init : MethodName := ⟨"java/lang/Object", "<init>", "()V"⟩
abbrev b_Play_init : ByteArray := prog_3_method_1_code
def y_Play_init : MethodName := ⟨"MarkedChains$Play", "<init>", "()V"⟩
abbrev b_Play_clear : ByteArray := prog_3_method_2_code
def y_Play_clear : MethodName := ⟨"MarkedChains$Play", "clear", "()V"⟩
abbrev b_Tape_init : ByteArray := prog_6_method_1_code
def y_Tape_init : MethodName := ⟨"MarkedChains$Tape", "<init>", "()V"⟩
abbrev b_Run_init : ByteArray := prog_5_method_1_code
def y_Run_init : MethodName := ⟨"MarkedChains$Run", "<init>", "(LMarkedChains$Play;)V"⟩
abbrev b_MC_replay : ByteArray := prog_1_method_49_code
def y_MC_replay : MethodName := ⟨"MarkedChains", "replay", "()V"⟩
abbrev b_Run_prepare : ByteArray := prog_5_method_2_code
def y_Run_prepare : MethodName := ⟨"MarkedChains$Run", "prepare", "(I)V"⟩
abbrev b_Arr_fill : ByteArray := prog_15_method_103_code
def y_Arr_fill : MethodName := ⟨"java/util/Arrays", "fill", "([II)V"⟩
abbrev b_Run_play : ByteArray := prog_5_method_3_code
def y_Run_play : MethodName := ⟨"MarkedChains$Run", "play", "()V"⟩
abbrev b_Run_begin : ByteArray := prog_5_method_4_code
def y_Run_begin : MethodName := ⟨"MarkedChains$Run", "begin", "()V"⟩
abbrev b_Play_isLiar : ByteArray := prog_3_method_5_code
def y_Play_isLiar : MethodName := ⟨"MarkedChains$Play", "isLiar", "(I)Z"⟩
abbrev b_Play_hasParty : ByteArray := prog_3_method_4_code
def y_Play_hasParty : MethodName := ⟨"MarkedChains$Play", "hasParty", "(I)Z"⟩
abbrev b_Play_isHonest : ByteArray := prog_3_method_6_code
def y_Play_isHonest : MethodName := ⟨"MarkedChains$Play", "isHonest", "(I)Z"⟩
abbrev b_MC_cellOf : ByteArray := prog_1_method_54_code
def y_MC_cellOf : MethodName := ⟨"MarkedChains", "cellOf", "(II)I"⟩
abbrev b_Run_sendFirst : ByteArray := prog_5_method_5_code
def y_Run_sendFirst : MethodName := ⟨"MarkedChains$Run", "sendFirst", "()V"⟩
abbrev b_Run_sendOthers : ByteArray := prog_5_method_8_code
def y_Run_sendOthers : MethodName := ⟨"MarkedChains$Run", "sendOthers", "(IIII)V"⟩
abbrev b_Chain_with : ByteArray := prog_2_method_4_code
def y_Chain_with : MethodName := ⟨"MarkedChains$Chain", "with", "(II)I"⟩
abbrev b_Chain_size : ByteArray := prog_2_method_2_code
def y_Chain_size : MethodName := ⟨"MarkedChains$Chain", "size", "(I)I"⟩
abbrev b_Route_of : ByteArray := prog_4_method_2_code
def y_Route_of : MethodName := ⟨"MarkedChains$Route", "of", "(III)I"⟩
abbrev b_Run_post : ByteArray := prog_5_method_11_code
def y_Run_post : MethodName := ⟨"MarkedChains$Run", "post", "(III)V"⟩
abbrev b_Route_roundOf : ByteArray := prog_4_method_3_code
def y_Route_roundOf : MethodName := ⟨"MarkedChains$Route", "roundOf", "(I)I"⟩
abbrev b_Run_relayAll : ByteArray := prog_5_method_6_code
def y_Run_relayAll : MethodName := ⟨"MarkedChains$Run", "relayAll", "(I)V"⟩
abbrev b_Run_relays : ByteArray := prog_5_method_7_code
def y_Run_relays : MethodName := ⟨"MarkedChains$Run", "relays", "(II)Z"⟩
abbrev b_Run_sendPlans : ByteArray := prog_5_method_9_code
def y_Run_sendPlans : MethodName := ⟨"MarkedChains$Run", "sendPlans", "(I)V"⟩
abbrev b_Route_fromOf : ByteArray := prog_4_method_4_code
def y_Route_fromOf : MethodName := ⟨"MarkedChains$Route", "fromOf", "(I)I"⟩
abbrev b_Run_canMark : ByteArray := prog_5_method_10_code
def y_Run_canMark : MethodName := ⟨"MarkedChains$Run", "canMark", "(III)Z"⟩
abbrev b_Chain_markAt : ByteArray := prog_2_method_3_code
def y_Chain_markAt : MethodName := ⟨"MarkedChains$Chain", "markAt", "(II)I"⟩
abbrev b_Run_rowOf : ByteArray := prog_5_method_16_code
def y_Run_rowOf : MethodName := ⟨"MarkedChains$Run", "rowOf", "(I)I"⟩
abbrev b_Run_readAll : ByteArray := prog_5_method_12_code
def y_Run_readAll : MethodName := ⟨"MarkedChains$Run", "readAll", "(I)V"⟩
abbrev b_Route_toOf : ByteArray := prog_4_method_5_code
def y_Route_toOf : MethodName := ⟨"MarkedChains$Route", "toOf", "(I)I"⟩
abbrev b_Run_learn : ByteArray := prog_5_method_13_code
def y_Run_learn : MethodName := ⟨"MarkedChains$Run", "learn", "(III)V"⟩
abbrev b_Run_counts : ByteArray := prog_5_method_14_code
def y_Run_counts : MethodName := ⟨"MarkedChains$Run", "counts", "(II)Z"⟩
abbrev b_Run_takes : ByteArray := prog_5_method_15_code
def y_Run_takes : MethodName := ⟨"MarkedChains$Run", "takes", "(III)Z"⟩
abbrev b_MC_feed : ByteArray := prog_1_method_2_code
def y_MC_feed : MethodName := ⟨"MarkedChains", "feed", "(IIIII)I"⟩
abbrev b_Tape_append : ByteArray := prog_6_method_2_code
def y_Tape_append : MethodName := ⟨"MarkedChains$Tape", "append", "(I)V"⟩
abbrev b_MC_end : ByteArray := prog_1_method_3_code
def y_MC_end : MethodName := ⟨"MarkedChains", "end", "(I)I"⟩
abbrev b_MC_tell : ByteArray := prog_1_method_4_code
def y_MC_tell : MethodName := ⟨"MarkedChains", "tell", "()I"⟩
abbrev b_Tape_read : ByteArray := prog_6_method_3_code
def y_Tape_read : MethodName := ⟨"MarkedChains$Tape", "read", "()V"⟩
abbrev b_Tape_readWord : ByteArray := prog_6_method_15_code
def y_Tape_readWord : MethodName := ⟨"MarkedChains$Tape", "readWord", "()V"⟩
abbrev b_Tape_skipBlanks : ByteArray := prog_6_method_17_code
def y_Tape_skipBlanks : MethodName := ⟨"MarkedChains$Tape", "skipBlanks", "()V"⟩
abbrev b_Tape_isWord : ByteArray := prog_6_method_16_code
def y_Tape_isWord : MethodName := ⟨"MarkedChains$Tape", "isWord", "(Ljava/lang/String;)Z"⟩
abbrev b_Str_length : ByteArray := prog_11_method_54_code
def y_Str_length : MethodName := ⟨"java/lang/String", "length", "()I"⟩
abbrev b_Str_coder : ByteArray := prog_11_method_152_code
def y_Str_coder : MethodName := ⟨"java/lang/String", "coder", "()B"⟩
abbrev b_Str_charAt : ByteArray := prog_11_method_56_code
def y_Str_charAt : MethodName := ⟨"java/lang/String", "charAt", "(I)C"⟩
abbrev b_Str_isLatin1 : ByteArray := prog_11_method_154_code
def y_Str_isLatin1 : MethodName := ⟨"java/lang/String", "isLatin1", "()Z"⟩
abbrev b_SL1_charAt : ByteArray := prog_12_method_2_code
def y_SL1_charAt : MethodName := ⟨"java/lang/StringLatin1", "charAt", "([BI)C"⟩
abbrev b_Str_checkIndex : ByteArray := prog_11_method_155_code
def y_Str_checkIndex : MethodName := ⟨"java/lang/String", "checkIndex", "(II)V"⟩
abbrev b_Pre_checkIndex : ByteArray := prog_16_method_11_code
def y_Pre_checkIndex : MethodName := ⟨"jdk/internal/util/Preconditions", "checkIndex", "(IILjava/util/function/BiFunction;)I"⟩
abbrev b_Tape_blame : ByteArray := prog_6_method_19_code
def y_Tape_blame : MethodName := ⟨"MarkedChains$Tape", "blame", "(II)V"⟩
abbrev b_Tape_readNumber : ByteArray := prog_6_method_12_code
def y_Tape_readNumber : MethodName := ⟨"MarkedChains$Tape", "readNumber", "(II)I"⟩
abbrev b_Tape_isDigit : ByteArray := prog_6_method_18_code
def y_Tape_isDigit : MethodName := ⟨"MarkedChains$Tape", "isDigit", "(C)Z"⟩
abbrev b_Tape_readSign : ByteArray := prog_6_method_14_code
def y_Tape_readSign : MethodName := ⟨"MarkedChains$Tape", "readSign", "(C)V"⟩
abbrev b_Tape_readPart : ByteArray := prog_6_method_4_code
def y_Tape_readPart : MethodName := ⟨"MarkedChains$Tape", "readPart", "()V"⟩
abbrev b_Tape_partOf : ByteArray := prog_6_method_5_code
def y_Tape_partOf : MethodName := ⟨"MarkedChains$Tape", "partOf", "()I"⟩
abbrev b_Tape_readLiars : ByteArray := prog_6_method_6_code
def y_Tape_readLiars : MethodName := ⟨"MarkedChains$Tape", "readLiars", "()V"⟩
abbrev b_Tape_readParty : ByteArray := prog_6_method_11_code
def y_Tape_readParty : MethodName := ⟨"MarkedChains$Tape", "readParty", "()I"⟩
abbrev b_Tape_hasNumber : ByteArray := prog_6_method_13_code
def y_Tape_hasNumber : MethodName := ⟨"MarkedChains$Tape", "hasNumber", "()Z"⟩
abbrev b_Tape_readLetter : ByteArray := prog_6_method_7_code
def y_Tape_readLetter : MethodName := ⟨"MarkedChains$Tape", "readLetter", "()V"⟩
abbrev b_Tape_readRoute : ByteArray := prog_6_method_10_code
def y_Tape_readRoute : MethodName := ⟨"MarkedChains$Tape", "readRoute", "()I"⟩
abbrev b_Chain_bears : ByteArray := prog_2_method_6_code
def y_Chain_bears : MethodName := ⟨"MarkedChains$Chain", "bears", "(II)Z"⟩
abbrev b_Chain_bearers : ByteArray := prog_2_method_5_code
def y_Chain_bearers : MethodName := ⟨"MarkedChains$Chain", "bearers", "(I)I"⟩
abbrev b_Play_addPlan : ByteArray := prog_3_method_16_code
def y_Play_addPlan : MethodName := ⟨"MarkedChains$Play", "addPlan", "(III)V"⟩
abbrev b_Tape_readOmit : ByteArray := prog_6_method_8_code
def y_Tape_readOmit : MethodName := ⟨"MarkedChains$Tape", "readOmit", "()V"⟩
abbrev b_Play_isOmitted : ByteArray := prog_3_method_13_code
def y_Play_isOmitted : MethodName := ⟨"MarkedChains$Play", "isOmitted", "(I)Z"⟩
abbrev b_Play_isAmong : ByteArray := prog_3_method_15_code
def y_Play_isAmong : MethodName := ⟨"MarkedChains$Play", "isAmong", "([III)Z"⟩
abbrev b_Play_addOmit : ByteArray := prog_3_method_17_code
def y_Play_addOmit : MethodName := ⟨"MarkedChains$Play", "addOmit", "(I)V"⟩
abbrev b_Tape_readLate : ByteArray := prog_6_method_9_code
def y_Tape_readLate : MethodName := ⟨"MarkedChains$Tape", "readLate", "()V"⟩
abbrev b_Play_isLate : ByteArray := prog_3_method_14_code
def y_Play_isLate : MethodName := ⟨"MarkedChains$Play", "isLate", "(I)Z"⟩
abbrev b_Play_addLate : ByteArray := prog_3_method_18_code
def y_Play_addLate : MethodName := ⟨"MarkedChains$Play", "addLate", "(II)V"⟩
abbrev b_Play_leastSetting : ByteArray := prog_3_method_9_code
def y_Play_leastSetting : MethodName := ⟨"MarkedChains$Play", "leastSetting", "(I)I"⟩
abbrev b_Play_mostSetting : ByteArray := prog_3_method_10_code
def y_Play_mostSetting : MethodName := ⟨"MarkedChains$Play", "mostSetting", "(I)I"⟩
abbrev b_Play_become : ByteArray := prog_3_method_3_code
def y_Play_become : MethodName := ⟨"MarkedChains$Play", "become", "(LMarkedChains$Play;)V"⟩
abbrev b_MC_settle : ByteArray := prog_1_method_5_code
def y_MC_settle : MethodName := ⟨"MarkedChains", "settle", "(II)I"⟩
abbrev b_Play_hasSetting : ByteArray := prog_3_method_8_code
def y_Play_hasSetting : MethodName := ⟨"MarkedChains$Play", "hasSetting", "(II)Z"⟩
abbrev b_MC_remember : ByteArray := prog_1_method_47_code
def y_MC_remember : MethodName := ⟨"MarkedChains", "remember", "()V"⟩
abbrev b_MC_forgetOldest : ByteArray := prog_1_method_48_code
def y_MC_forgetOldest : MethodName := ⟨"MarkedChains", "forgetOldest", "()V"⟩
abbrev b_MC_lies : ByteArray := prog_1_method_6_code
def y_MC_lies : MethodName := ⟨"MarkedChains", "lies", "(I)I"⟩
abbrev b_MC_plan : ByteArray := prog_1_method_7_code
def y_MC_plan : MethodName := ⟨"MarkedChains", "plan", "(IIIII)I"⟩
abbrev b_Chain_ofDigits : ByteArray := prog_2_method_9_code
def y_Chain_ofDigits : MethodName := ⟨"MarkedChains$Chain", "ofDigits", "(I)I"⟩
abbrev b_Play_hasRoute : ByteArray := prog_3_method_11_code
def y_Play_hasRoute : MethodName := ⟨"MarkedChains$Play", "hasRoute", "(III)Z"⟩
abbrev b_MC_isValue : ByteArray := prog_1_method_53_code
def y_MC_isValue : MethodName := ⟨"MarkedChains", "isValue", "(I)Z"⟩
abbrev b_Play_hasMarks : ByteArray := prog_3_method_12_code
def y_Play_hasMarks : MethodName := ⟨"MarkedChains$Play", "hasMarks", "(I)Z"⟩
abbrev b_MC_drop : ByteArray := prog_1_method_8_code
def y_MC_drop : MethodName := ⟨"MarkedChains", "drop", "(II)I"⟩
abbrev b_Play_sizeOf : ByteArray := prog_3_method_19_code
def y_Play_sizeOf : MethodName := ⟨"MarkedChains$Play", "sizeOf", "(I)I"⟩
abbrev b_Play_remove : ByteArray := prog_3_method_20_code
def y_Play_remove : MethodName := ⟨"MarkedChains$Play", "remove", "(II)V"⟩
abbrev b_Play_closeGap : ByteArray := prog_3_method_21_code
def y_Play_closeGap : MethodName := ⟨"MarkedChains$Play", "closeGap", "([II)V"⟩
abbrev b_MC_omit : ByteArray := prog_1_method_9_code
def y_MC_omit : MethodName := ⟨"MarkedChains", "omit", "(III)I"⟩
abbrev b_MC_late : ByteArray := prog_1_method_10_code
def y_MC_late : MethodName := ⟨"MarkedChains", "late", "(IIII)I"⟩
abbrev b_MC_attack : ByteArray := prog_1_method_11_code
def y_MC_attack : MethodName := ⟨"MarkedChains", "attack", "()I"⟩
abbrev b_Int_bitCount : ByteArray := prog_9_method_49_code
def y_Int_bitCount : MethodName := ⟨"java/lang/Integer", "bitCount", "(I)I"⟩
abbrev b_Play_honest : ByteArray := prog_3_method_7_code
def y_Play_honest : MethodName := ⟨"MarkedChains$Play", "honest", "()I"⟩
abbrev b_Play_liarsChain : ByteArray := prog_3_method_23_code
def y_Play_liarsChain : MethodName := ⟨"MarkedChains$Play", "liarsChain", "(I)I"⟩
abbrev b_MC_leastOf : ByteArray := prog_1_method_55_code
def y_MC_leastOf : MethodName := ⟨"MarkedChains", "leastOf", "(I)I"⟩
abbrev b_MC_trade : ByteArray := prog_1_method_12_code
def y_MC_trade : MethodName := ⟨"MarkedChains", "trade", "(II)I"⟩
abbrev b_Play_swap : ByteArray := prog_3_method_22_code
def y_Play_swap : MethodName := ⟨"MarkedChains$Play", "swap", "(II)V"⟩
abbrev b_MC_swapped : ByteArray := prog_1_method_56_code
def y_MC_swapped : MethodName := ⟨"MarkedChains", "swapped", "(III)I"⟩
abbrev b_Route_traded : ByteArray := prog_4_method_6_code
def y_Route_traded : MethodName := ⟨"MarkedChains$Route", "traded", "(III)I"⟩
abbrev b_Chain_traded : ByteArray := prog_2_method_7_code
def y_Chain_traded : MethodName := ⟨"MarkedChains$Chain", "traded", "(III)I"⟩
abbrev b_MC_undo : ByteArray := prog_1_method_13_code
def y_MC_undo : MethodName := ⟨"MarkedChains", "undo", "()I"⟩
abbrev b_MC_keep : ByteArray := prog_1_method_14_code
def y_MC_keep : MethodName := ⟨"MarkedChains", "keep", "(I)I"⟩
abbrev b_MC_back : ByteArray := prog_1_method_15_code
def y_MC_back : MethodName := ⟨"MarkedChains", "back", "(I)I"⟩
abbrev b_MC_set : ByteArray := prog_1_method_16_code
def y_MC_set : MethodName := ⟨"MarkedChains", "set", "(II)I"⟩
abbrev b_MC_hasRoundBehind : ByteArray := prog_1_method_51_code
def y_MC_hasRoundBehind : MethodName := ⟨"MarkedChains", "hasRoundBehind", "(I)Z"⟩
abbrev b_Run_setOf : ByteArray := prog_5_method_17_code
def y_Run_setOf : MethodName := ⟨"MarkedChains$Run", "setOf", "(II)I"⟩
abbrev b_MC_decision : ByteArray := prog_1_method_17_code
def y_MC_decision : MethodName := ⟨"MarkedChains", "decision", "(I)I"⟩
abbrev b_Run_decisionOf : ByteArray := prog_5_method_18_code
def y_Run_decisionOf : MethodName := ⟨"MarkedChains$Run", "decisionOf", "(I)I"⟩
abbrev b_MC_extracted : ByteArray := prog_1_method_18_code
def y_MC_extracted : MethodName := ⟨"MarkedChains", "extracted", "(III)I"⟩
abbrev b_MC_holders : ByteArray := prog_1_method_19_code
def y_MC_holders : MethodName := ⟨"MarkedChains", "holders", "(II)I"⟩
abbrev b_MC_path : ByteArray := prog_1_method_20_code
def y_MC_path : MethodName := ⟨"MarkedChains", "path", "(III)I"⟩
abbrev b_MC_caught : ByteArray := prog_1_method_21_code
def y_MC_caught : MethodName := ⟨"MarkedChains", "caught", "(I)I"⟩
abbrev b_Run_firstTwoFaced : ByteArray := prog_5_method_24_code
def y_Run_firstTwoFaced : MethodName := ⟨"MarkedChains$Run", "firstTwoFaced", "(I)I"⟩
abbrev b_MC_letter : ByteArray := prog_1_method_22_code
def y_MC_letter : MethodName := ⟨"MarkedChains", "letter", "(II)I"⟩
abbrev b_MC_hasLetter : ByteArray := prog_1_method_50_code
def y_MC_hasLetter : MethodName := ⟨"MarkedChains", "hasLetter", "(I)Z"⟩
abbrev b_MC_mark : ByteArray := prog_1_method_23_code
def y_MC_mark : MethodName := ⟨"MarkedChains", "mark", "(II)I"⟩
abbrev b_MC_packed : ByteArray := prog_1_method_24_code
def y_MC_packed : MethodName := ⟨"MarkedChains", "packed", "(I)J"⟩
abbrev b_Chain_pack : ByteArray := prog_2_method_10_code
def y_Chain_pack : MethodName := ⟨"MarkedChains$Chain", "pack", "(II)J"⟩
abbrev b_MC_open : ByteArray := prog_1_method_25_code
def y_MC_open : MethodName := ⟨"MarkedChains", "open", "(JI)I"⟩
abbrev b_Chain_unpack : ByteArray := prog_2_method_11_code
def y_Chain_unpack : MethodName := ⟨"MarkedChains$Chain", "unpack", "(J)I"⟩
abbrev b_MC_sent : ByteArray := prog_1_method_26_code
def y_MC_sent : MethodName := ⟨"MarkedChains", "sent", "(I)I"⟩
abbrev b_MC_isRoundOrNone : ByteArray := prog_1_method_52_code
def y_MC_isRoundOrNone : MethodName := ⟨"MarkedChains", "isRoundOrNone", "(I)Z"⟩
abbrev b_Run_lettersOf : ByteArray := prog_5_method_26_code
def y_Run_lettersOf : MethodName := ⟨"MarkedChains$Run", "lettersOf", "(I)I"⟩
abbrev b_MC_forged : ByteArray := prog_1_method_27_code
def y_MC_forged : MethodName := ⟨"MarkedChains", "forged", "(I)I"⟩
abbrev b_Play_idlePlans : ByteArray := prog_3_method_26_code
def y_Play_idlePlans : MethodName := ⟨"MarkedChains$Play", "idlePlans", "()I"⟩
abbrev b_MC_known : ByteArray := prog_1_method_28_code
def y_MC_known : MethodName := ⟨"MarkedChains", "known", "(II)I"⟩
abbrev b_MC_bits : ByteArray := prog_1_method_29_code
def y_MC_bits : MethodName := ⟨"MarkedChains", "bits", "(I)I"⟩
abbrev b_Run_greatestBits : ByteArray := prog_5_method_29_code
def y_Run_greatestBits : MethodName := ⟨"MarkedChains$Run", "greatestBits", "()I"⟩
abbrev b_Run_bitsOfLetter : ByteArray := prog_5_method_27_code
def y_Run_bitsOfLetter : MethodName := ⟨"MarkedChains$Run", "bitsOfLetter", "(I)I"⟩
abbrev b_Run_bitsOf : ByteArray := prog_5_method_28_code
def y_Run_bitsOf : MethodName := ⟨"MarkedChains$Run", "bitsOf", "(I)I"⟩
abbrev b_MC_load : ByteArray := prog_1_method_30_code
def y_MC_load : MethodName := ⟨"MarkedChains", "load", "(II)I"⟩
abbrev b_Run_greatestLoad : ByteArray := prog_5_method_31_code
def y_Run_greatestLoad : MethodName := ⟨"MarkedChains$Run", "greatestLoad", "()I"⟩
abbrev b_Run_loadOf : ByteArray := prog_5_method_30_code
def y_Run_loadOf : MethodName := ⟨"MarkedChains$Run", "loadOf", "(II)I"⟩
abbrev b_MC_alike : ByteArray := prog_1_method_31_code
def y_MC_alike : MethodName := ⟨"MarkedChains", "alike", "()I"⟩
abbrev b_Play_soundParties : ByteArray := prog_3_method_24_code
def y_Play_soundParties : MethodName := ⟨"MarkedChains$Play", "soundParties", "()I"⟩
abbrev b_Play_endsOf : ByteArray := prog_3_method_25_code
def y_Play_endsOf : MethodName := ⟨"MarkedChains$Play", "endsOf", "(I)I"⟩
abbrev b_Run_haveOneDecision : ByteArray := prog_5_method_19_code
def y_Run_haveOneDecision : MethodName := ⟨"MarkedChains$Run", "haveOneDecision", "(I)Z"⟩
abbrev b_MC_valid : ByteArray := prog_1_method_32_code
def y_MC_valid : MethodName := ⟨"MarkedChains", "valid", "()I"⟩
abbrev b_MC_sound : ByteArray := prog_1_method_33_code
def y_MC_sound : MethodName := ⟨"MarkedChains", "sound", "()I"⟩
abbrev b_MC_calm : ByteArray := prog_1_method_34_code
def y_MC_calm : MethodName := ⟨"MarkedChains", "calm", "(I)I"⟩
abbrev b_Run_firstStill : ByteArray := prog_5_method_22_code
def y_Run_firstStill : MethodName := ⟨"MarkedChains$Run", "firstStill", "()I"⟩
abbrev b_Run_someSetChanges : ByteArray := prog_5_method_23_code
def y_Run_someSetChanges : MethodName := ⟨"MarkedChains$Run", "someSetChanges", "(I)Z"⟩
abbrev b_Run_firstUnited : ByteArray := prog_5_method_21_code
def y_Run_firstUnited : MethodName := ⟨"MarkedChains$Run", "firstUnited", "(I)I"⟩
abbrev b_Run_haveOneSet : ByteArray := prog_5_method_20_code
def y_Run_haveOneSet : MethodName := ⟨"MarkedChains$Run", "haveOneSet", "(II)Z"⟩
abbrev b_MC_parted : ByteArray := prog_1_method_35_code
def y_MC_parted : MethodName := ⟨"MarkedChains", "parted", "()I"⟩
abbrev b_MC_partsWith : ByteArray := prog_1_method_36_code
def y_MC_partsWith : MethodName := ⟨"MarkedChains", "partsWith", "(III)Z"⟩
abbrev b_MC_slack : ByteArray := prog_1_method_37_code
def y_MC_slack : MethodName := ⟨"MarkedChains", "slack", "(III)I"⟩
abbrev b_MC_changesDecisions : ByteArray := prog_1_method_40_code
def y_MC_changesDecisions : MethodName := ⟨"MarkedChains", "changesDecisions", "(II)Z"⟩
abbrev b_MC_crucial : ByteArray := prog_1_method_38_code
def y_MC_crucial : MethodName := ⟨"MarkedChains", "crucial", "(II)I"⟩
abbrev b_MC_isCrucial : ByteArray := prog_1_method_39_code
def y_MC_isCrucial : MethodName := ⟨"MarkedChains", "isCrucial", "(III)Z"⟩
abbrev b_Run_anyComes : ByteArray := prog_5_method_25_code
def y_Run_anyComes : MethodName := ⟨"MarkedChains$Run", "anyComes", "(I)Z"⟩
abbrev b_MC_least : ByteArray := prog_1_method_41_code
def y_MC_least : MethodName := ⟨"MarkedChains", "least", "()I"⟩
abbrev b_MC_heal : ByteArray := prog_1_method_42_code
def y_MC_heal : MethodName := ⟨"MarkedChains", "heal", "()I"⟩
abbrev b_MC_healsWithout : ByteArray := prog_1_method_43_code
def y_MC_healsWithout : MethodName := ⟨"MarkedChains", "healsWithout", "(I)Z"⟩
abbrev b_MC_count : ByteArray := prog_1_method_44_code
def y_MC_count : MethodName := ⟨"MarkedChains", "count", "(I)I"⟩
abbrev b_Run_shortLetters : ByteArray := prog_5_method_32_code
def y_Run_shortLetters : MethodName := ⟨"MarkedChains$Run", "shortLetters", "()I"⟩
abbrev b_MC_planned : ByteArray := prog_1_method_45_code
def y_MC_planned : MethodName := ⟨"MarkedChains", "planned", "(II)I"⟩
abbrev b_Chain_digits : ByteArray := prog_2_method_8_code
def y_Chain_digits : MethodName := ⟨"MarkedChains$Chain", "digits", "(I)I"⟩
abbrev b_MC_fault : ByteArray := prog_1_method_46_code
def y_MC_fault : MethodName := ⟨"MarkedChains", "fault", "(III)I"⟩
abbrev b_MM_init : ByteArray := prog_8_method_1_code
def y_MM_init : MethodName := ⟨"MarkedChainsModel", "<init>", "()V"⟩
abbrev b_MM_begins : ByteArray := prog_8_method_2_code
def y_MM_begins : MethodName := ⟨"MarkedChainsModel", "begins", "([I)V"⟩
abbrev b_MM_feed : ByteArray := prog_8_method_7_code
def y_MM_feed : MethodName := ⟨"MarkedChainsModel", "feed", "(IIIII)I"⟩
abbrev b_MM_puts : ByteArray := prog_8_method_8_code
def y_MM_puts : MethodName := ⟨"MarkedChainsModel", "puts", "(I)V"⟩
abbrev b_MM_end : ByteArray := prog_8_method_9_code
def y_MM_end : MethodName := ⟨"MarkedChainsModel", "end", "(I)I"⟩
abbrev b_MM_tell : ByteArray := prog_8_method_23_code
def y_MM_tell : MethodName := ⟨"MarkedChainsModel", "tell", "()I"⟩
abbrev b_MM_takes : ByteArray := prog_8_method_14_code
def y_MM_takes : MethodName := ⟨"MarkedChainsModel", "takes", "(Ljava/lang/String;)Z"⟩
abbrev b_MM_next : ByteArray := prog_8_method_11_code
def y_MM_next : MethodName := ⟨"MarkedChainsModel", "next", "()I"⟩
abbrev b_MM_sign : ByteArray := prog_8_method_10_code
def y_MM_sign : MethodName := ⟨"MarkedChainsModel", "sign", "()I"⟩
abbrev b_MM_in : ByteArray := prog_8_method_3_code
def y_MM_in : MethodName := ⟨"MarkedChainsModel", "in", "(JJJ)Z"⟩
abbrev b_MM_fails : ByteArray := prog_8_method_13_code
def y_MM_fails : MethodName := ⟨"MarkedChainsModel", "fails", "(II)V"⟩
abbrev b_MM_isRight : ByteArray := prog_8_method_12_code
def y_MM_isRight : MethodName := ⟨"MarkedChainsModel", "isRight", "()Z"⟩
abbrev b_MM_number : ByteArray := prog_8_method_16_code
def y_MM_number : MethodName := ⟨"MarkedChainsModel", "number", "(II)I"⟩
abbrev b_MM_isDigit : ByteArray := prog_8_method_15_code
def y_MM_isDigit : MethodName := ⟨"MarkedChainsModel", "isDigit", "()Z"⟩
abbrev b_MM_readsPart : ByteArray := prog_8_method_22_code
def y_MM_readsPart : MethodName := ⟨"MarkedChainsModel", "readsPart", "()V"⟩
abbrev b_MM_party : ByteArray := prog_8_method_17_code
def y_MM_party : MethodName := ⟨"MarkedChainsModel", "party", "()I"⟩
abbrev b_MM_readsLiars : ByteArray := prog_8_method_21_code
def y_MM_readsLiars : MethodName := ⟨"MarkedChainsModel", "readsLiars", "()V"⟩
abbrev b_MM_readsLetter : ByteArray := prog_8_method_19_code
def y_MM_readsLetter : MethodName := ⟨"MarkedChainsModel", "readsLetter", "(I)V"⟩
abbrev b_MM_readsWay : ByteArray := prog_8_method_18_code
def y_MM_readsWay : MethodName := ⟨"MarkedChainsModel", "readsWay", "(I)V"⟩
abbrev b_MM_truth : ByteArray := prog_8_method_4_code
def y_MM_truth : MethodName := ⟨"MarkedChainsModel", "truth", "(Z)I"⟩
abbrev b_MM_readsFault : ByteArray := prog_8_method_20_code
def y_MM_readsFault : MethodName := ⟨"MarkedChainsModel", "readsFault", "(IIII)V"⟩
abbrev b_MM_moves : ByteArray := prog_8_method_6_code
def y_MM_moves : MethodName := ⟨"MarkedChainsModel", "moves", "([II[II)V"⟩
abbrev b_MM_undo : ByteArray := prog_8_method_25_code
def y_MM_undo : MethodName := ⟨"MarkedChainsModel", "undo", "()I"⟩
abbrev b_MM_keep : ByteArray := prog_8_method_26_code
def y_MM_keep : MethodName := ⟨"MarkedChainsModel", "keep", "(I)I"⟩
abbrev b_MM_back : ByteArray := prog_8_method_27_code
def y_MM_back : MethodName := ⟨"MarkedChainsModel", "back", "(I)I"⟩
abbrev b_MM_settle : ByteArray := prog_8_method_33_code
def y_MM_settle : MethodName := ⟨"MarkedChainsModel", "settle", "(II)I"⟩
abbrev b_MM_canBe : ByteArray := prog_8_method_32_code
def y_MM_canBe : MethodName := ⟨"MarkedChainsModel", "canBe", "(II)Z"⟩
abbrev b_MM_isParty : ByteArray := prog_8_method_28_code
def y_MM_isParty : MethodName := ⟨"MarkedChainsModel", "isParty", "(I)Z"⟩
abbrev b_MM_keepsPast : ByteArray := prog_8_method_24_code
def y_MM_keepsPast : MethodName := ⟨"MarkedChainsModel", "keepsPast", "()V"⟩
abbrev b_MM_lies : ByteArray := prog_8_method_34_code
def y_MM_lies : MethodName := ⟨"MarkedChainsModel", "lies", "(I)I"⟩
abbrev b_MM_isLiar : ByteArray := prog_8_method_30_code
def y_MM_isLiar : MethodName := ⟨"MarkedChainsModel", "isLiar", "(I)Z"⟩
abbrev b_MM_has : ByteArray := prog_8_method_5_code
def y_MM_has : MethodName := ⟨"MarkedChainsModel", "has", "(II)Z"⟩
abbrev b_MM_plan : ByteArray := prog_8_method_37_code
def y_MM_plan : MethodName := ⟨"MarkedChainsModel", "plan", "(IIIII)I"⟩
abbrev b_MM_laysTold : ByteArray := prog_8_method_35_code
def y_MM_laysTold : MethodName := ⟨"MarkedChainsModel", "laysTold", "(I)I"⟩
abbrev b_MM_areUnlike : ByteArray := prog_8_method_29_code
def y_MM_areUnlike : MethodName := ⟨"MarkedChainsModel", "areUnlike", "(II)Z"⟩
abbrev b_MM_plans : ByteArray := prog_8_method_36_code
def y_MM_plans : MethodName := ⟨"MarkedChainsModel", "plans", "(IIIII)V"⟩
abbrev b_MM_drop : ByteArray := prog_8_method_41_code
def y_MM_drop : MethodName := ⟨"MarkedChainsModel", "drop", "(II)I"⟩
abbrev b_MM_takesOut : ByteArray := prog_8_method_40_code
def y_MM_takesOut : MethodName := ⟨"MarkedChainsModel", "takesOut", "(II)V"⟩
abbrev b_MM_wideOf : ByteArray := prog_8_method_39_code
def y_MM_wideOf : MethodName := ⟨"MarkedChainsModel", "wideOf", "(I)I"⟩
abbrev b_MM_placeOf : ByteArray := prog_8_method_38_code
def y_MM_placeOf : MethodName := ⟨"MarkedChainsModel", "placeOf", "(I)I"⟩
abbrev b_MM_omit : ByteArray := prog_8_method_45_code
def y_MM_omit : MethodName := ⟨"MarkedChainsModel", "omit", "(III)I"⟩
abbrev b_MM_adds : ByteArray := prog_8_method_44_code
def y_MM_adds : MethodName := ⟨"MarkedChainsModel", "adds", "(IIIII)I"⟩
abbrev b_MM_faultOf : ByteArray := prog_8_method_42_code
def y_MM_faultOf : MethodName := ⟨"MarkedChainsModel", "faultOf", "(IIII)I"⟩
abbrev b_MM_faults : ByteArray := prog_8_method_43_code
def y_MM_faults : MethodName := ⟨"MarkedChainsModel", "faults", "(IIIII)V"⟩
abbrev b_MM_late : ByteArray := prog_8_method_46_code
def y_MM_late : MethodName := ⟨"MarkedChainsModel", "late", "(IIII)I"⟩
abbrev b_MM_attack : ByteArray := prog_8_method_47_code
def y_MM_attack : MethodName := ⟨"MarkedChainsModel", "attack", "()I"⟩
abbrev b_MM_trade : ByteArray := prog_8_method_49_code
def y_MM_trade : MethodName := ⟨"MarkedChainsModel", "trade", "(II)I"⟩
abbrev b_MM_traded : ByteArray := prog_8_method_48_code
def y_MM_traded : MethodName := ⟨"MarkedChainsModel", "traded", "(III)I"⟩
abbrev b_MM_set : ByteArray := prog_8_method_65_code
def y_MM_set : MethodName := ⟨"MarkedChainsModel", "set", "(II)I"⟩
abbrev b_MM_isHonest : ByteArray := prog_8_method_31_code
def y_MM_isHonest : MethodName := ⟨"MarkedChainsModel", "isHonest", "(I)Z"⟩
abbrev b_MM_runs : ByteArray := prog_8_method_59_code
def y_MM_runs : MethodName := ⟨"MarkedChainsModel", "runs", "()V"⟩
abbrev b_MM_cell : ByteArray := prog_8_method_50_code
def y_MM_cell : MethodName := ⟨"MarkedChainsModel", "cell", "(II)I"⟩
abbrev b_MM_sendsHonest : ByteArray := prog_8_method_55_code
def y_MM_sendsHonest : MethodName := ⟨"MarkedChainsModel", "sendsHonest", "(II)V"⟩
abbrev b_MM_sendsAll : ByteArray := prog_8_method_52_code
def y_MM_sendsAll : MethodName := ⟨"MarkedChainsModel", "sendsAll", "(IIII)V"⟩
abbrev b_MM_sends : ByteArray := prog_8_method_51_code
def y_MM_sends : MethodName := ⟨"MarkedChainsModel", "sends", "(IIIII)V"⟩
abbrev b_MM_relays : ByteArray := prog_8_method_54_code
def y_MM_relays : MethodName := ⟨"MarkedChainsModel", "relays", "(II)Z"⟩
abbrev b_MM_rank : ByteArray := prog_8_method_53_code
def y_MM_rank : MethodName := ⟨"MarkedChainsModel", "rank", "(II)I"⟩
abbrev b_MM_sendsPlanned : ByteArray := prog_8_method_57_code
def y_MM_sendsPlanned : MethodName := ⟨"MarkedChainsModel", "sendsPlanned", "(I)V"⟩
abbrev b_MM_isForged : ByteArray := prog_8_method_56_code
def y_MM_isForged : MethodName := ⟨"MarkedChainsModel", "isForged", "(II)Z"⟩
abbrev b_MM_reads : ByteArray := prog_8_method_58_code
def y_MM_reads : MethodName := ⟨"MarkedChainsModel", "reads", "(I)V"⟩
abbrev b_MM_setOf : ByteArray := prog_8_method_60_code
def y_MM_setOf : MethodName := ⟨"MarkedChainsModel", "setOf", "(II)I"⟩
abbrev b_MM_decision : ByteArray := prog_8_method_66_code
def y_MM_decision : MethodName := ⟨"MarkedChainsModel", "decision", "(I)I"⟩
abbrev b_MM_decisionOf : ByteArray := prog_8_method_61_code
def y_MM_decisionOf : MethodName := ⟨"MarkedChainsModel", "decisionOf", "(I)I"⟩
abbrev b_Int_numberOfTrailingZeros : ByteArray := prog_9_method_48_code
def y_Int_numberOfTrailingZeros : MethodName := ⟨"java/lang/Integer", "numberOfTrailingZeros", "(I)I"⟩
abbrev b_MM_extracted : ByteArray := prog_8_method_67_code
def y_MM_extracted : MethodName := ⟨"MarkedChainsModel", "extracted", "(III)I"⟩
abbrev b_MM_letter : ByteArray := prog_8_method_68_code
def y_MM_letter : MethodName := ⟨"MarkedChainsModel", "letter", "(II)I"⟩
abbrev b_MM_mark : ByteArray := prog_8_method_69_code
def y_MM_mark : MethodName := ⟨"MarkedChainsModel", "mark", "(II)I"⟩
abbrev b_MM_packed : ByteArray := prog_8_method_70_code
def y_MM_packed : MethodName := ⟨"MarkedChainsModel", "packed", "(I)J"⟩
abbrev b_MM_open : ByteArray := prog_8_method_71_code
def y_MM_open : MethodName := ⟨"MarkedChainsModel", "open", "(JI)I"⟩
abbrev b_MM_sent : ByteArray := prog_8_method_72_code
def y_MM_sent : MethodName := ⟨"MarkedChainsModel", "sent", "(I)I"⟩
abbrev b_MM_forged : ByteArray := prog_8_method_73_code
def y_MM_forged : MethodName := ⟨"MarkedChainsModel", "forged", "(I)I"⟩
abbrev b_MM_known : ByteArray := prog_8_method_74_code
def y_MM_known : MethodName := ⟨"MarkedChainsModel", "known", "(II)I"⟩
abbrev b_MM_alike : ByteArray := prog_8_method_75_code
def y_MM_alike : MethodName := ⟨"MarkedChainsModel", "alike", "()I"⟩
abbrev b_MM_soundSet : ByteArray := prog_8_method_62_code
def y_MM_soundSet : MethodName := ⟨"MarkedChainsModel", "soundSet", "()I"⟩
abbrev b_MM_decideAlike : ByteArray := prog_8_method_64_code
def y_MM_decideAlike : MethodName := ⟨"MarkedChainsModel", "decideAlike", "(I)Z"⟩
abbrev b_MM_valid : ByteArray := prog_8_method_76_code
def y_MM_valid : MethodName := ⟨"MarkedChainsModel", "valid", "()I"⟩
abbrev b_MM_sound : ByteArray := prog_8_method_77_code
def y_MM_sound : MethodName := ⟨"MarkedChainsModel", "sound", "()I"⟩
abbrev b_MM_parted : ByteArray := prog_8_method_79_code
def y_MM_parted : MethodName := ⟨"MarkedChainsModel", "parted", "()I"⟩
abbrev b_MM_leaves : ByteArray := prog_8_method_78_code
def y_MM_leaves : MethodName := ⟨"MarkedChainsModel", "leaves", "(I)V"⟩
abbrev b_MM_slack : ByteArray := prog_8_method_82_code
def y_MM_slack : MethodName := ⟨"MarkedChainsModel", "slack", "(III)I"⟩
abbrev b_MM_marksDecisions : ByteArray := prog_8_method_80_code
def y_MM_marksDecisions : MethodName := ⟨"MarkedChainsModel", "marksDecisions", "()V"⟩
abbrev b_MM_faultsAside : ByteArray := prog_8_method_83_code
def y_MM_faultsAside : MethodName := ⟨"MarkedChainsModel", "faultsAside", "(IIII)V"⟩
abbrev b_MM_isAsItWas : ByteArray := prog_8_method_81_code
def y_MM_isAsItWas : MethodName := ⟨"MarkedChainsModel", "isAsItWas", "()Z"⟩
abbrev b_MM_crucial : ByteArray := prog_8_method_84_code
def y_MM_crucial : MethodName := ⟨"MarkedChainsModel", "crucial", "(II)I"⟩
abbrev b_MM_least : ByteArray := prog_8_method_85_code
def y_MM_least : MethodName := ⟨"MarkedChainsModel", "least", "()I"⟩
abbrev b_MM_heal : ByteArray := prog_8_method_86_code
def y_MM_heal : MethodName := ⟨"MarkedChainsModel", "heal", "()I"⟩
abbrev b_MM_honestSet : ByteArray := prog_8_method_63_code
def y_MM_honestSet : MethodName := ⟨"MarkedChainsModel", "honestSet", "()I"⟩
abbrev b_MM_holders : ByteArray := prog_8_method_87_code
def y_MM_holders : MethodName := ⟨"MarkedChainsModel", "holders", "(II)I"⟩
abbrev b_MM_path : ByteArray := prog_8_method_88_code
def y_MM_path : MethodName := ⟨"MarkedChainsModel", "path", "(III)I"⟩
abbrev b_MM_caught : ByteArray := prog_8_method_90_code
def y_MM_caught : MethodName := ⟨"MarkedChainsModel", "caught", "(I)I"⟩
abbrev b_MM_bears : ByteArray := prog_8_method_89_code
def y_MM_bears : MethodName := ⟨"MarkedChainsModel", "bears", "(II)Z"⟩
abbrev b_MM_bits : ByteArray := prog_8_method_91_code
def y_MM_bits : MethodName := ⟨"MarkedChainsModel", "bits", "(I)I"⟩
abbrev b_MM_load : ByteArray := prog_8_method_93_code
def y_MM_load : MethodName := ⟨"MarkedChainsModel", "load", "(II)I"⟩
abbrev b_MM_loadOf : ByteArray := prog_8_method_92_code
def y_MM_loadOf : MethodName := ⟨"MarkedChainsModel", "loadOf", "(II)I"⟩
abbrev b_MM_calm : ByteArray := prog_8_method_95_code
def y_MM_calm : MethodName := ⟨"MarkedChainsModel", "calm", "(I)I"⟩
abbrev b_MM_isCalm : ByteArray := prog_8_method_94_code
def y_MM_isCalm : MethodName := ⟨"MarkedChainsModel", "isCalm", "(II)Z"⟩
abbrev b_MM_count : ByteArray := prog_8_method_97_code
def y_MM_count : MethodName := ⟨"MarkedChainsModel", "count", "(I)I"⟩
abbrev b_MM_wanting : ByteArray := prog_8_method_96_code
def y_MM_wanting : MethodName := ⟨"MarkedChainsModel", "wanting", "()I"⟩
abbrev b_MM_planned : ByteArray := prog_8_method_98_code
def y_MM_planned : MethodName := ⟨"MarkedChainsModel", "planned", "(II)I"⟩
abbrev b_MM_fault : ByteArray := prog_8_method_99_code
def y_MM_fault : MethodName := ⟨"MarkedChainsModel", "fault", "(III)I"⟩
theorem w1_0 : Jvm.Cond.initialized "MarkedChainsLaw" ∈ gtb := gt_of (tm1 0 rfl) rfl
theorem w1_1 : Jvm.Cond.initialized "MarkedChains" ∈ gtb := gt_of (tm1 1 rfl) rfl
theorem w1_2 : Jvm.Cond.initialized "MarkedChains$Play" ∈ gtb := gt_of (tm1 2 rfl) rfl
theorem w1_3 : Jvm.Cond.initialized "MarkedChains$Tape" ∈ gtb := gt_of (tm1 3 rfl) rfl
theorem w1_4 : Jvm.Cond.initialized "MarkedChains$Run" ∈ gtb := gt_of (tm1 4 rfl) rfl
theorem w1_5 : Jvm.Cond.initialized "java/util/Arrays" ∈ gtb := gt_of (tm1 5 rfl) rfl
theorem w1_6 : Jvm.Cond.initialized "MarkedChains$Chain" ∈ gtb := gt_of (tm1 6 rfl) rfl
theorem w1_7 : Jvm.Cond.initialized "MarkedChains$Route" ∈ gtb := gt_of (tm1 7 rfl) rfl
theorem w1_8 : Jvm.Cond.initialized "java/lang/System" ∈ gtb := gt_of (tm1 8 rfl) rfl
theorem w1_9 : Jvm.Cond.initialized "java/lang/Math" ∈ gtb := gt_of (tm1 9 rfl) rfl
theorem w1_10 : Jvm.Cond.initialized "MarkedChainsModel" ∈ gtb := gt_of (tm1 10 rfl) rfl
theorem w1_11 : Jvm.Cond.initialized "java/lang/String" ∈ gtb := gt_of (tm1 11 rfl) rfl
theorem w1_12 : Jvm.Cond.initialized "java/lang/StringLatin1" ∈ gtb := gt_of (tm1 12 rfl) rfl
theorem w1_13 : Jvm.Cond.initialized "jdk/internal/util/Preconditions" ∈ gtb := gt_of (tm1 13 rfl) rfl
theorem w1_14 : Jvm.Cond.initialized "java/lang/StringUTF16" ∈ gtb := gt_of (tm1 14 rfl) rfl
theorem w1_15 : Jvm.Cond.initialized "java/lang/Integer" ∈ gtb := gt_of (tm1 15 rfl) rfl
theorem w1_16 : Jvm.Cond.classLink "MarkedChainsLaw" (7 : Nat) "MarkedChains" ∈ gtb := gt_of (tm1 16 rfl) rfl
theorem w1_17 : Jvm.Cond.instantiable "MarkedChains" (8 : Nat) ∈ gtb := gt_of (tm1 17 rfl) rfl
theorem w1_18 : Jvm.Cond.methodLink "MarkedChainsLaw" (9 : Nat) ({ cls := "MarkedChains", name := "<init>", desc := "()V" } : Jvm.MethodName) ∈ gtb := gt_of (tm1 18 rfl) rfl
theorem w1_19 : Jvm.Cond.instanceMethod ({ cls := "MarkedChains", name := "<init>", desc := "()V" } : Jvm.MethodName) ∈ gtb := gt_of (tm1 19 rfl) rfl
theorem w1_20 : Jvm.Cond.code ({ cls := "MarkedChains", name := "<init>", desc := "()V" } : Jvm.MethodName) prog_1_method_1_code (2 : Nat) (Option.none : Option Jvm.ClassFile.FieldType) ∈ gtb := gt_of (tm1 20 rfl) rfl
theorem w1_21 : Jvm.Cond.methodLink "MarkedChains" (1 : Nat) ({ cls := "java/lang/Object", name := "<init>", desc := "()V" } : Jvm.MethodName) ∈ gtb := gt_of (tm1 21 rfl) rfl
theorem w1_22 : Jvm.Cond.instanceMethod ({ cls := "java/lang/Object", name := "<init>", desc := "()V" } : Jvm.MethodName) ∈ gtb := gt_of (tm1 22 rfl) rfl
theorem w1_23 : Jvm.Cond.code ({ cls := "java/lang/Object", name := "<init>", desc := "()V" } : Jvm.MethodName) object_method_1_code (1 : Nat) (Option.none : Option Jvm.ClassFile.FieldType) ∈ gtb := gt_of (tm1 23 rfl) rfl
theorem w1_24 : Jvm.Cond.classLink "MarkedChains" (7 : Nat) "MarkedChains$Play" ∈ gtb := gt_of (tm1 24 rfl) rfl
theorem w1_25 : Jvm.Cond.instantiable "MarkedChains$Play" (12 : Nat) ∈ gtb := gt_of (tm1 25 rfl) rfl
theorem w1_26 : Jvm.Cond.methodLink "MarkedChains" (9 : Nat) ({ cls := "MarkedChains$Play", name := "<init>", desc := "()V" } : Jvm.MethodName) ∈ gtb := gt_of (tm1 26 rfl) rfl
theorem w1_27 : Jvm.Cond.instanceMethod ({ cls := "MarkedChains$Play", name := "<init>", desc := "()V" } : Jvm.MethodName) ∈ gtb := gt_of (tm1 27 rfl) rfl
theorem w1_28 : Jvm.Cond.code ({ cls := "MarkedChains$Play", name := "<init>", desc := "()V" } : Jvm.MethodName) prog_3_method_1_code (1 : Nat) (Option.none : Option Jvm.ClassFile.FieldType) ∈ gtb := gt_of (tm1 28 rfl) rfl
theorem w1_29 : Jvm.Cond.methodLink "MarkedChains$Play" (3 : Nat) ({ cls := "java/lang/Object", name := "<init>", desc := "()V" } : Jvm.MethodName) ∈ gtb := gt_of (tm1 29 rfl) rfl
theorem w1_30 : Jvm.Cond.methodLink "MarkedChains$Play" (33 : Nat) ({ cls := "MarkedChains$Play", name := "clear", desc := "()V" } : Jvm.MethodName) ∈ gtb := gt_of (tm1 30 rfl) rfl
theorem w1_31 : Jvm.Cond.instanceMethod ({ cls := "MarkedChains$Play", name := "clear", desc := "()V" } : Jvm.MethodName) ∈ gtb := gt_of (tm1 31 rfl) rfl
theorem w1_32 : Jvm.Cond.selects "MarkedChains$Play" ({ cls := "MarkedChains$Play", name := "clear", desc := "()V" } : Jvm.MethodName) ({ cls := "MarkedChains$Play", name := "clear", desc := "()V" } : Jvm.MethodName) ∈ gtb := gt_of (tm1 32 rfl) rfl
theorem w1_33 : Jvm.Cond.code ({ cls := "MarkedChains$Play", name := "clear", desc := "()V" } : Jvm.MethodName) prog_3_method_2_code (1 : Nat) (Option.none : Option Jvm.ClassFile.FieldType) ∈ gtb := gt_of (tm1 33 rfl) rfl
theorem w1_34 : Jvm.Cond.fieldLink "MarkedChains$Play" (36 : Nat) "MarkedChains$Play" "parties" "I" ∈ gtb := gt_of (tm1 34 rfl) rfl
theorem w1_35 : Jvm.Cond.fieldLink "MarkedChains$Tape" (55 : Nat) "MarkedChains$Play" "parties" "I" ∈ gtb := gt_of (tm1 35 rfl) rfl
theorem w1_36 : Jvm.Cond.fieldLink "MarkedChains" (71 : Nat) "MarkedChains$Play" "parties" "I" ∈ gtb := gt_of (tm1 36 rfl) rfl
theorem w1_37 : Jvm.Cond.fieldLink "MarkedChains$Run" (133 : Nat) "MarkedChains$Play" "parties" "I" ∈ gtb := gt_of (tm1 37 rfl) rfl
theorem w1_38 : Jvm.Cond.fieldLink "MarkedChains$Play" (40 : Nat) "MarkedChains$Play" "liars" "I" ∈ gtb := gt_of (tm1 38 rfl) rfl
theorem w1_39 : Jvm.Cond.fieldLink "MarkedChains$Tape" (113 : Nat) "MarkedChains$Play" "liars" "I" ∈ gtb := gt_of (tm1 39 rfl) rfl
theorem w1_40 : Jvm.Cond.fieldLink "MarkedChains" (89 : Nat) "MarkedChains$Play" "liars" "I" ∈ gtb := gt_of (tm1 40 rfl) rfl
theorem w1_41 : Jvm.Cond.fieldLink "MarkedChains$Play" (43 : Nat) "MarkedChains$Play" "planCount" "I" ∈ gtb := gt_of (tm1 41 rfl) rfl
theorem w1_42 : Jvm.Cond.fieldLink "MarkedChains$Tape" (123 : Nat) "MarkedChains$Play" "planCount" "I" ∈ gtb := gt_of (tm1 42 rfl) rfl
theorem w1_43 : Jvm.Cond.fieldLink "MarkedChains" (108 : Nat) "MarkedChains$Play" "planCount" "I" ∈ gtb := gt_of (tm1 43 rfl) rfl
theorem w1_44 : Jvm.Cond.fieldLink "MarkedChains$Run" (150 : Nat) "MarkedChains$Play" "planCount" "I" ∈ gtb := gt_of (tm1 44 rfl) rfl
theorem w1_45 : Jvm.Cond.fieldLink "MarkedChains$Play" (46 : Nat) "MarkedChains$Play" "omitCount" "I" ∈ gtb := gt_of (tm1 45 rfl) rfl
theorem w1_46 : Jvm.Cond.fieldLink "MarkedChains$Run" (72 : Nat) "MarkedChains$Play" "omitCount" "I" ∈ gtb := gt_of (tm1 46 rfl) rfl
theorem w1_47 : Jvm.Cond.fieldLink "MarkedChains$Tape" (142 : Nat) "MarkedChains$Play" "omitCount" "I" ∈ gtb := gt_of (tm1 47 rfl) rfl
theorem w1_48 : Jvm.Cond.fieldLink "MarkedChains" (131 : Nat) "MarkedChains$Play" "omitCount" "I" ∈ gtb := gt_of (tm1 48 rfl) rfl
theorem w1_49 : Jvm.Cond.fieldLink "MarkedChains$Play" (49 : Nat) "MarkedChains$Play" "lateCount" "I" ∈ gtb := gt_of (tm1 49 rfl) rfl
theorem w1_50 : Jvm.Cond.fieldLink "MarkedChains$Run" (69 : Nat) "MarkedChains$Play" "lateCount" "I" ∈ gtb := gt_of (tm1 50 rfl) rfl
theorem w1_51 : Jvm.Cond.fieldLink "MarkedChains$Tape" (153 : Nat) "MarkedChains$Play" "lateCount" "I" ∈ gtb := gt_of (tm1 51 rfl) rfl
theorem w1_52 : Jvm.Cond.fieldLink "MarkedChains" (140 : Nat) "MarkedChains$Play" "lateCount" "I" ∈ gtb := gt_of (tm1 52 rfl) rfl
theorem w1_53 : Jvm.Cond.fieldLink "MarkedChains$Play" (9 : Nat) "MarkedChains$Play" "settings" "[I" ∈ gtb := gt_of (tm1 53 rfl) rfl
theorem w1_54 : Jvm.Cond.fieldLink "MarkedChains$Run" (51 : Nat) "MarkedChains$Play" "settings" "[I" ∈ gtb := gt_of (tm1 54 rfl) rfl
theorem w1_55 : Jvm.Cond.fieldLink "MarkedChains$Tape" (84 : Nat) "MarkedChains$Play" "settings" "[I" ∈ gtb := gt_of (tm1 55 rfl) rfl
theorem w1_56 : Jvm.Cond.fieldLink "MarkedChains" (78 : Nat) "MarkedChains$Play" "settings" "[I" ∈ gtb := gt_of (tm1 56 rfl) rfl
theorem w1_57 : Jvm.Cond.fieldLink "MarkedChains$Play" (15 : Nat) "MarkedChains$Play" "planRoute" "[I" ∈ gtb := gt_of (tm1 57 rfl) rfl
theorem w1_58 : Jvm.Cond.fieldLink "MarkedChains$Run" (153 : Nat) "MarkedChains$Play" "planRoute" "[I" ∈ gtb := gt_of (tm1 58 rfl) rfl
theorem w1_59 : Jvm.Cond.fieldLink "MarkedChains" (322 : Nat) "MarkedChains$Play" "planRoute" "[I" ∈ gtb := gt_of (tm1 59 rfl) rfl
theorem w1_60 : Jvm.Cond.fieldLink "MarkedChains$Play" (18 : Nat) "MarkedChains$Play" "planValue" "[I" ∈ gtb := gt_of (tm1 60 rfl) rfl
theorem w1_61 : Jvm.Cond.fieldLink "MarkedChains$Run" (165 : Nat) "MarkedChains$Play" "planValue" "[I" ∈ gtb := gt_of (tm1 61 rfl) rfl
theorem w1_62 : Jvm.Cond.fieldLink "MarkedChains" (325 : Nat) "MarkedChains$Play" "planValue" "[I" ∈ gtb := gt_of (tm1 62 rfl) rfl
theorem w1_63 : Jvm.Cond.fieldLink "MarkedChains$Play" (21 : Nat) "MarkedChains$Play" "planChain" "[I" ∈ gtb := gt_of (tm1 63 rfl) rfl
theorem w1_64 : Jvm.Cond.fieldLink "MarkedChains$Run" (162 : Nat) "MarkedChains$Play" "planChain" "[I" ∈ gtb := gt_of (tm1 64 rfl) rfl
theorem w1_65 : Jvm.Cond.fieldLink "MarkedChains" (328 : Nat) "MarkedChains$Play" "planChain" "[I" ∈ gtb := gt_of (tm1 65 rfl) rfl
theorem w1_66 : Jvm.Cond.fieldLink "MarkedChains$Play" (24 : Nat) "MarkedChains$Play" "omitRoute" "[I" ∈ gtb := gt_of (tm1 66 rfl) rfl
theorem w1_67 : Jvm.Cond.fieldLink "MarkedChains$Run" (81 : Nat) "MarkedChains$Play" "omitRoute" "[I" ∈ gtb := gt_of (tm1 67 rfl) rfl
theorem w1_68 : Jvm.Cond.fieldLink "MarkedChains" (334 : Nat) "MarkedChains$Play" "omitRoute" "[I" ∈ gtb := gt_of (tm1 68 rfl) rfl
theorem w1_69 : Jvm.Cond.fieldLink "MarkedChains$Play" (27 : Nat) "MarkedChains$Play" "lateRoute" "[I" ∈ gtb := gt_of (tm1 69 rfl) rfl
theorem w1_70 : Jvm.Cond.fieldLink "MarkedChains$Run" (75 : Nat) "MarkedChains$Play" "lateRoute" "[I" ∈ gtb := gt_of (tm1 70 rfl) rfl
theorem w1_71 : Jvm.Cond.fieldLink "MarkedChains" (337 : Nat) "MarkedChains$Play" "lateRoute" "[I" ∈ gtb := gt_of (tm1 71 rfl) rfl
theorem w1_72 : Jvm.Cond.fieldLink "MarkedChains$Play" (30 : Nat) "MarkedChains$Play" "lateBy" "[I" ∈ gtb := gt_of (tm1 72 rfl) rfl
theorem w1_73 : Jvm.Cond.fieldLink "MarkedChains$Run" (78 : Nat) "MarkedChains$Play" "lateBy" "[I" ∈ gtb := gt_of (tm1 73 rfl) rfl
theorem w1_74 : Jvm.Cond.fieldLink "MarkedChains" (340 : Nat) "MarkedChains$Play" "lateBy" "[I" ∈ gtb := gt_of (tm1 74 rfl) rfl
theorem w1_75 : Jvm.Cond.lays "MarkedChains$Play" "MarkedChains$Play" "parties" "I" ∈ gtb := gt_of (tm1 75 rfl) rfl
theorem w1_77 : Jvm.Cond.lays "MarkedChains$Play" "MarkedChains$Play" "liars" "I" ∈ gtb := gt_of (tm1 77 rfl) rfl
theorem w1_79 : Jvm.Cond.lays "MarkedChains$Play" "MarkedChains$Play" "planCount" "I" ∈ gtb := gt_of (tm1 79 rfl) rfl
theorem w1_81 : Jvm.Cond.lays "MarkedChains$Play" "MarkedChains$Play" "omitCount" "I" ∈ gtb := gt_of (tm1 81 rfl) rfl
theorem w1_83 : Jvm.Cond.lays "MarkedChains$Play" "MarkedChains$Play" "lateCount" "I" ∈ gtb := gt_of (tm1 83 rfl) rfl
theorem w1_85 : Jvm.Cond.laysFinal "MarkedChains$Play" "MarkedChains$Play" "settings" "[I" ∈ gtb := gt_of (tm1 85 rfl) rfl
theorem w1_87 : Jvm.Cond.laysFinal "MarkedChains$Play" "MarkedChains$Play" "planRoute" "[I" ∈ gtb := gt_of (tm1 87 rfl) rfl
theorem w1_89 : Jvm.Cond.laysFinal "MarkedChains$Play" "MarkedChains$Play" "planValue" "[I" ∈ gtb := gt_of (tm1 89 rfl) rfl
theorem w1_91 : Jvm.Cond.laysFinal "MarkedChains$Play" "MarkedChains$Play" "planChain" "[I" ∈ gtb := gt_of (tm1 91 rfl) rfl
theorem w1_93 : Jvm.Cond.laysFinal "MarkedChains$Play" "MarkedChains$Play" "omitRoute" "[I" ∈ gtb := gt_of (tm1 93 rfl) rfl
theorem w1_95 : Jvm.Cond.laysFinal "MarkedChains$Play" "MarkedChains$Play" "lateRoute" "[I" ∈ gtb := gt_of (tm1 95 rfl) rfl
theorem w1_97 : Jvm.Cond.laysFinal "MarkedChains$Play" "MarkedChains$Play" "lateBy" "[I" ∈ gtb := gt_of (tm1 97 rfl) rfl
theorem w1_100 : Jvm.Cond.arrayClass Jvm.ClassFile.FieldType.int ∈ gtb := gt_of (tm1 100 rfl) rfl
theorem w1_101 : Jvm.Cond.classLink "MarkedChains" (16 : Nat) "MarkedChains$Tape" ∈ gtb := gt_of (tm1 101 rfl) rfl
theorem w1_102 : Jvm.Cond.instantiable "MarkedChains$Tape" (6 : Nat) ∈ gtb := gt_of (tm1 102 rfl) rfl
theorem w1_104 : Jvm.Cond.instanceMethod ({ cls := "MarkedChains$Tape", name := "<init>", desc := "()V" } : Jvm.MethodName) ∈ gtb := gt_of (tm1 104 rfl) rfl
theorem w1_105 : Jvm.Cond.code ({ cls := "MarkedChains$Tape", name := "<init>", desc := "()V" } : Jvm.MethodName) prog_6_method_1_code (1 : Nat) (Option.none : Option Jvm.ClassFile.FieldType) ∈ gtb := gt_of (tm1 105 rfl) rfl
theorem w1_106 : Jvm.Cond.methodLink "MarkedChains$Tape" (3 : Nat) ({ cls := "java/lang/Object", name := "<init>", desc := "()V" } : Jvm.MethodName) ∈ gtb := gt_of (tm1 106 rfl) rfl
theorem w1_107 : Jvm.Cond.classLink "MarkedChains$Tape" (15 : Nat) "MarkedChains$Play" ∈ gtb := gt_of (tm1 107 rfl) rfl
theorem w1_108 : Jvm.Cond.methodLink "MarkedChains$Tape" (17 : Nat) ({ cls := "MarkedChains$Play", name := "<init>", desc := "()V" } : Jvm.MethodName) ∈ gtb := gt_of (tm1 108 rfl) rfl
theorem w1_109 : Jvm.Cond.fieldLink "MarkedChains$Tape" (9 : Nat) "MarkedChains$Tape" "bytes" "[C" ∈ gtb := gt_of (tm1 109 rfl) rfl
theorem w1_110 : Jvm.Cond.fieldLink "MarkedChains$Tape" (18 : Nat) "MarkedChains$Tape" "told" "LMarkedChains$Play;" ∈ gtb := gt_of (tm1 110 rfl) rfl
theorem w1_111 : Jvm.Cond.fieldLink "MarkedChains" (65 : Nat) "MarkedChains$Tape" "told" "LMarkedChains$Play;" ∈ gtb := gt_of (tm1 111 rfl) rfl
theorem w1_112 : Jvm.Cond.fieldLink "MarkedChains$Tape" (22 : Nat) "MarkedChains$Tape" "length" "I" ∈ gtb := gt_of (tm1 112 rfl) rfl
theorem w1_113 : Jvm.Cond.fieldLink "MarkedChains" (52 : Nat) "MarkedChains$Tape" "length" "I" ∈ gtb := gt_of (tm1 113 rfl) rfl
theorem w1_114 : Jvm.Cond.fieldLink "MarkedChains$Tape" (26 : Nat) "MarkedChains$Tape" "wrong" "I" ∈ gtb := gt_of (tm1 114 rfl) rfl
theorem w1_115 : Jvm.Cond.fieldLink "MarkedChains" (62 : Nat) "MarkedChains$Tape" "wrong" "I" ∈ gtb := gt_of (tm1 115 rfl) rfl
theorem w1_116 : Jvm.Cond.fieldLink "MarkedChains$Tape" (29 : Nat) "MarkedChains$Tape" "at" "I" ∈ gtb := gt_of (tm1 116 rfl) rfl
theorem w1_117 : Jvm.Cond.fieldLink "MarkedChains$Tape" (32 : Nat) "MarkedChains$Tape" "began" "I" ∈ gtb := gt_of (tm1 117 rfl) rfl
theorem w1_118 : Jvm.Cond.laysFinal "MarkedChains$Tape" "MarkedChains$Tape" "bytes" "[C" ∈ gtb := gt_of (tm1 118 rfl) rfl
theorem w1_120 : Jvm.Cond.laysFinal "MarkedChains$Tape" "MarkedChains$Tape" "told" "LMarkedChains$Play;" ∈ gtb := gt_of (tm1 120 rfl) rfl
theorem w1_122 : Jvm.Cond.lays "MarkedChains$Tape" "MarkedChains$Tape" "length" "I" ∈ gtb := gt_of (tm1 122 rfl) rfl
theorem w1_124 : Jvm.Cond.lays "MarkedChains$Tape" "MarkedChains$Tape" "wrong" "I" ∈ gtb := gt_of (tm1 124 rfl) rfl
theorem w1_126 : Jvm.Cond.lays "MarkedChains$Tape" "MarkedChains$Tape" "at" "I" ∈ gtb := gt_of (tm1 126 rfl) rfl
theorem w1_128 : Jvm.Cond.lays "MarkedChains$Tape" "MarkedChains$Tape" "began" "I" ∈ gtb := gt_of (tm1 128 rfl) rfl
theorem w1_131 : Jvm.Cond.arrayClass Jvm.ClassFile.FieldType.char ∈ gtb := gt_of (tm1 131 rfl) rfl
theorem w1_132 : Jvm.Cond.classLink "MarkedChains" (23 : Nat) "MarkedChains$Run" ∈ gtb := gt_of (tm1 132 rfl) rfl
theorem w1_133 : Jvm.Cond.instantiable "MarkedChains$Run" (16 : Nat) ∈ gtb := gt_of (tm1 133 rfl) rfl
theorem w1_134 : Jvm.Cond.methodLink "MarkedChains" (25 : Nat) ({ cls := "MarkedChains$Run", name := "<init>", desc := "(LMarkedChains$Play;)V" } : Jvm.MethodName) ∈ gtb := gt_of (tm1 134 rfl) rfl
theorem w1_135 : Jvm.Cond.instanceMethod ({ cls := "MarkedChains$Run", name := "<init>", desc := "(LMarkedChains$Play;)V" } : Jvm.MethodName) ∈ gtb := gt_of (tm1 135 rfl) rfl
theorem w1_136 : Jvm.Cond.code ({ cls := "MarkedChains$Run", name := "<init>", desc := "(LMarkedChains$Play;)V" } : Jvm.MethodName) prog_5_method_1_code (2 : Nat) (Option.none : Option Jvm.ClassFile.FieldType) ∈ gtb := gt_of (tm1 136 rfl) rfl
theorem w1_137 : Jvm.Cond.methodLink "MarkedChains$Run" (3 : Nat) ({ cls := "java/lang/Object", name := "<init>", desc := "()V" } : Jvm.MethodName) ∈ gtb := gt_of (tm1 137 rfl) rfl
theorem w1_138 : Jvm.Cond.fieldLink "MarkedChains$Run" (47 : Nat) "MarkedChains$Run" "of" "LMarkedChains$Play;" ∈ gtb := gt_of (tm1 138 rfl) rfl
theorem w1_139 : Jvm.Cond.fieldLink "MarkedChains$Run" (56 : Nat) "MarkedChains$Run" "rounds" "I" ∈ gtb := gt_of (tm1 139 rfl) rfl
theorem w1_140 : Jvm.Cond.fieldLink "MarkedChains" (313 : Nat) "MarkedChains$Run" "rounds" "I" ∈ gtb := gt_of (tm1 140 rfl) rfl
theorem w1_141 : Jvm.Cond.fieldLink "MarkedChains$Run" (60 : Nat) "MarkedChains$Run" "plansAllowed" "I" ∈ gtb := gt_of (tm1 141 rfl) rfl
theorem w1_142 : Jvm.Cond.fieldLink "MarkedChains" (296 : Nat) "MarkedChains$Run" "plansAllowed" "I" ∈ gtb := gt_of (tm1 142 rfl) rfl
theorem w1_143 : Jvm.Cond.fieldLink "MarkedChains$Run" (113 : Nat) "MarkedChains$Run" "forgedPlans" "I" ∈ gtb := gt_of (tm1 143 rfl) rfl
theorem w1_144 : Jvm.Cond.fieldLink "MarkedChains" (252 : Nat) "MarkedChains$Run" "forgedPlans" "I" ∈ gtb := gt_of (tm1 144 rfl) rfl
theorem w1_145 : Jvm.Cond.fieldLink "MarkedChains$Run" (110 : Nat) "MarkedChains$Run" "letters" "I" ∈ gtb := gt_of (tm1 145 rfl) rfl
theorem w1_146 : Jvm.Cond.fieldLink "MarkedChains" (204 : Nat) "MarkedChains$Run" "letters" "I" ∈ gtb := gt_of (tm1 146 rfl) rfl
theorem w1_147 : Jvm.Cond.fieldLink "MarkedChains$Run" (11 : Nat) "MarkedChains$Run" "delay" "[I" ∈ gtb := gt_of (tm1 147 rfl) rfl
theorem w1_148 : Jvm.Cond.fieldLink "MarkedChains" (310 : Nat) "MarkedChains$Run" "delay" "[I" ∈ gtb := gt_of (tm1 148 rfl) rfl
theorem w1_149 : Jvm.Cond.fieldLink "MarkedChains$Run" (17 : Nat) "MarkedChains$Run" "route" "[I" ∈ gtb := gt_of (tm1 149 rfl) rfl
theorem w1_150 : Jvm.Cond.fieldLink "MarkedChains" (210 : Nat) "MarkedChains$Run" "route" "[I" ∈ gtb := gt_of (tm1 150 rfl) rfl
theorem w1_151 : Jvm.Cond.fieldLink "MarkedChains$Run" (20 : Nat) "MarkedChains$Run" "value" "[I" ∈ gtb := gt_of (tm1 151 rfl) rfl
theorem w1_152 : Jvm.Cond.fieldLink "MarkedChains" (222 : Nat) "MarkedChains$Run" "value" "[I" ∈ gtb := gt_of (tm1 152 rfl) rfl
theorem w1_153 : Jvm.Cond.fieldLink "MarkedChains$Run" (23 : Nat) "MarkedChains$Run" "chain" "[I" ∈ gtb := gt_of (tm1 153 rfl) rfl
theorem w1_154 : Jvm.Cond.fieldLink "MarkedChains" (225 : Nat) "MarkedChains$Run" "chain" "[I" ∈ gtb := gt_of (tm1 154 rfl) rfl
theorem w1_155 : Jvm.Cond.fieldLink "MarkedChains$Run" (26 : Nat) "MarkedChains$Run" "comes" "[I" ∈ gtb := gt_of (tm1 155 rfl) rfl
theorem w1_156 : Jvm.Cond.fieldLink "MarkedChains" (228 : Nat) "MarkedChains$Run" "comes" "[I" ∈ gtb := gt_of (tm1 156 rfl) rfl
theorem w1_157 : Jvm.Cond.fieldLink "MarkedChains$Run" (29 : Nat) "MarkedChains$Run" "use" "[I" ∈ gtb := gt_of (tm1 157 rfl) rfl
theorem w1_158 : Jvm.Cond.fieldLink "MarkedChains" (231 : Nat) "MarkedChains$Run" "use" "[I" ∈ gtb := gt_of (tm1 158 rfl) rfl
theorem w1_159 : Jvm.Cond.fieldLink "MarkedChains$Run" (32 : Nat) "MarkedChains$Run" "gotRound" "[I" ∈ gtb := gt_of (tm1 159 rfl) rfl
theorem w1_160 : Jvm.Cond.fieldLink "MarkedChains" (189 : Nat) "MarkedChains$Run" "gotRound" "[I" ∈ gtb := gt_of (tm1 160 rfl) rfl
theorem w1_161 : Jvm.Cond.fieldLink "MarkedChains$Run" (35 : Nat) "MarkedChains$Run" "gotFrom" "[I" ∈ gtb := gt_of (tm1 161 rfl) rfl
theorem w1_162 : Jvm.Cond.fieldLink "MarkedChains" (192 : Nat) "MarkedChains$Run" "gotFrom" "[I" ∈ gtb := gt_of (tm1 162 rfl) rfl
theorem w1_163 : Jvm.Cond.fieldLink "MarkedChains$Run" (38 : Nat) "MarkedChains$Run" "gotChain" "[I" ∈ gtb := gt_of (tm1 163 rfl) rfl
theorem w1_164 : Jvm.Cond.fieldLink "MarkedChains" (195 : Nat) "MarkedChains$Run" "gotChain" "[I" ∈ gtb := gt_of (tm1 164 rfl) rfl
theorem w1_165 : Jvm.Cond.fieldLink "MarkedChains$Run" (41 : Nat) "MarkedChains$Run" "usable" "[I" ∈ gtb := gt_of (tm1 165 rfl) rfl
theorem w1_166 : Jvm.Cond.fieldLink "MarkedChains" (258 : Nat) "MarkedChains$Run" "usable" "[I" ∈ gtb := gt_of (tm1 166 rfl) rfl
theorem w1_167 : Jvm.Cond.fieldLink "MarkedChains$Run" (44 : Nat) "MarkedChains$Run" "sets" "[I" ∈ gtb := gt_of (tm1 167 rfl) rfl
theorem w1_168 : Jvm.Cond.laysFinal "MarkedChains$Run" "MarkedChains$Run" "of" "LMarkedChains$Play;" ∈ gtb := gt_of (tm1 168 rfl) rfl
theorem w1_170 : Jvm.Cond.lays "MarkedChains$Run" "MarkedChains$Run" "rounds" "I" ∈ gtb := gt_of (tm1 170 rfl) rfl
theorem w1_172 : Jvm.Cond.lays "MarkedChains$Run" "MarkedChains$Run" "plansAllowed" "I" ∈ gtb := gt_of (tm1 172 rfl) rfl
theorem w1_174 : Jvm.Cond.lays "MarkedChains$Run" "MarkedChains$Run" "forgedPlans" "I" ∈ gtb := gt_of (tm1 174 rfl) rfl
theorem w1_176 : Jvm.Cond.lays "MarkedChains$Run" "MarkedChains$Run" "letters" "I" ∈ gtb := gt_of (tm1 176 rfl) rfl
theorem w1_178 : Jvm.Cond.laysFinal "MarkedChains$Run" "MarkedChains$Run" "delay" "[I" ∈ gtb := gt_of (tm1 178 rfl) rfl
theorem w1_180 : Jvm.Cond.laysFinal "MarkedChains$Run" "MarkedChains$Run" "route" "[I" ∈ gtb := gt_of (tm1 180 rfl) rfl
theorem w1_182 : Jvm.Cond.laysFinal "MarkedChains$Run" "MarkedChains$Run" "value" "[I" ∈ gtb := gt_of (tm1 182 rfl) rfl
theorem w1_184 : Jvm.Cond.laysFinal "MarkedChains$Run" "MarkedChains$Run" "chain" "[I" ∈ gtb := gt_of (tm1 184 rfl) rfl
theorem w1_186 : Jvm.Cond.laysFinal "MarkedChains$Run" "MarkedChains$Run" "comes" "[I" ∈ gtb := gt_of (tm1 186 rfl) rfl
theorem w1_188 : Jvm.Cond.laysFinal "MarkedChains$Run" "MarkedChains$Run" "use" "[I" ∈ gtb := gt_of (tm1 188 rfl) rfl
theorem w1_190 : Jvm.Cond.laysFinal "MarkedChains$Run" "MarkedChains$Run" "gotRound" "[I" ∈ gtb := gt_of (tm1 190 rfl) rfl
theorem w1_192 : Jvm.Cond.laysFinal "MarkedChains$Run" "MarkedChains$Run" "gotFrom" "[I" ∈ gtb := gt_of (tm1 192 rfl) rfl
theorem w1_194 : Jvm.Cond.laysFinal "MarkedChains$Run" "MarkedChains$Run" "gotChain" "[I" ∈ gtb := gt_of (tm1 194 rfl) rfl
theorem w1_196 : Jvm.Cond.laysFinal "MarkedChains$Run" "MarkedChains$Run" "usable" "[I" ∈ gtb := gt_of (tm1 196 rfl) rfl
theorem w1_198 : Jvm.Cond.laysFinal "MarkedChains$Run" "MarkedChains$Run" "sets" "[I" ∈ gtb := gt_of (tm1 198 rfl) rfl
theorem w1_202 : Jvm.Cond.methodLink "MarkedChains" (49 : Nat) ({ cls := "MarkedChains", name := "replay", desc := "()V" } : Jvm.MethodName) ∈ gtb := gt_of (tm1 202 rfl) rfl
theorem w1_204 : Jvm.Cond.instanceMethod ({ cls := "MarkedChains", name := "replay", desc := "()V" } : Jvm.MethodName) ∈ gtb := gt_of (tm1 204 rfl) rfl
theorem w1_205 : Jvm.Cond.code ({ cls := "MarkedChains", name := "replay", desc := "()V" } : Jvm.MethodName) prog_1_method_49_code (1 : Nat) (Option.none : Option Jvm.ClassFile.FieldType) ∈ gtb := gt_of (tm1 205 rfl) rfl
theorem w1_206 : Jvm.Cond.methodLink "MarkedChains" (293 : Nat) ({ cls := "MarkedChains$Run", name := "prepare", desc := "(I)V" } : Jvm.MethodName) ∈ gtb := gt_of (tm1 206 rfl) rfl
theorem w1_207 : Jvm.Cond.instanceMethod ({ cls := "MarkedChains$Run", name := "prepare", desc := "(I)V" } : Jvm.MethodName) ∈ gtb := gt_of (tm1 207 rfl) rfl
theorem w1_208 : Jvm.Cond.selects "MarkedChains$Run" ({ cls := "MarkedChains$Run", name := "prepare", desc := "(I)V" } : Jvm.MethodName) ({ cls := "MarkedChains$Run", name := "prepare", desc := "(I)V" } : Jvm.MethodName) ∈ gtb := gt_of (tm1 208 rfl) rfl
theorem w1_209 : Jvm.Cond.code ({ cls := "MarkedChains$Run", name := "prepare", desc := "(I)V" } : Jvm.MethodName) prog_5_method_2_code (3 : Nat) (Option.none : Option Jvm.ClassFile.FieldType) ∈ gtb := gt_of (tm1 209 rfl) rfl
theorem w1_210 : Jvm.Cond.methodLink "MarkedChains$Run" (63 : Nat) ({ cls := "java/util/Arrays", name := "fill", desc := "([II)V" } : Jvm.MethodName) ∈ gtb := gt_of (tm1 210 rfl) rfl
theorem w1_211 : Jvm.Cond.static ({ cls := "java/util/Arrays", name := "fill", desc := "([II)V" } : Jvm.MethodName) ∈ gtb := gt_of (tm1 211 rfl) rfl
theorem w1_212 : Jvm.Cond.code ({ cls := "java/util/Arrays", name := "fill", desc := "([II)V" } : Jvm.MethodName) prog_15_method_103_code (4 : Nat) (Option.none : Option Jvm.ClassFile.FieldType) ∈ gtb := gt_of (tm1 212 rfl) rfl
theorem w1_213 : Jvm.Cond.methodLink "MarkedChains" (299 : Nat) ({ cls := "MarkedChains$Run", name := "play", desc := "()V" } : Jvm.MethodName) ∈ gtb := gt_of (tm1 213 rfl) rfl
theorem w1_214 : Jvm.Cond.instanceMethod ({ cls := "MarkedChains$Run", name := "play", desc := "()V" } : Jvm.MethodName) ∈ gtb := gt_of (tm1 214 rfl) rfl
theorem w1_215 : Jvm.Cond.selects "MarkedChains$Run" ({ cls := "MarkedChains$Run", name := "play", desc := "()V" } : Jvm.MethodName) ({ cls := "MarkedChains$Run", name := "play", desc := "()V" } : Jvm.MethodName) ∈ gtb := gt_of (tm1 215 rfl) rfl
theorem w1_216 : Jvm.Cond.code ({ cls := "MarkedChains$Run", name := "play", desc := "()V" } : Jvm.MethodName) prog_5_method_3_code (2 : Nat) (Option.none : Option Jvm.ClassFile.FieldType) ∈ gtb := gt_of (tm1 216 rfl) rfl
theorem w1_217 : Jvm.Cond.methodLink "MarkedChains$Run" (84 : Nat) ({ cls := "MarkedChains$Run", name := "begin", desc := "()V" } : Jvm.MethodName) ∈ gtb := gt_of (tm1 217 rfl) rfl
theorem w1_219 : Jvm.Cond.instanceMethod ({ cls := "MarkedChains$Run", name := "begin", desc := "()V" } : Jvm.MethodName) ∈ gtb := gt_of (tm1 219 rfl) rfl
theorem w1_220 : Jvm.Cond.code ({ cls := "MarkedChains$Run", name := "begin", desc := "()V" } : Jvm.MethodName) prog_5_method_4_code (2 : Nat) (Option.none : Option Jvm.ClassFile.FieldType) ∈ gtb := gt_of (tm1 220 rfl) rfl
theorem w1_221 : Jvm.Cond.methodLink "MarkedChains$Run" (118 : Nat) ({ cls := "MarkedChains$Play", name := "isLiar", desc := "(I)Z" } : Jvm.MethodName) ∈ gtb := gt_of (tm1 221 rfl) rfl
theorem w1_222 : Jvm.Cond.instanceMethod ({ cls := "MarkedChains$Play", name := "isLiar", desc := "(I)Z" } : Jvm.MethodName) ∈ gtb := gt_of (tm1 222 rfl) rfl
theorem w1_223 : Jvm.Cond.selects "MarkedChains$Play" ({ cls := "MarkedChains$Play", name := "isLiar", desc := "(I)Z" } : Jvm.MethodName) ({ cls := "MarkedChains$Play", name := "isLiar", desc := "(I)Z" } : Jvm.MethodName) ∈ gtb := gt_of (tm1 223 rfl) rfl
theorem w1_224 : Jvm.Cond.code ({ cls := "MarkedChains$Play", name := "isLiar", desc := "(I)Z" } : Jvm.MethodName) prog_3_method_5_code (2 : Nat) (Option.some Jvm.ClassFile.FieldType.boolean) ∈ gtb := gt_of (tm1 224 rfl) rfl
theorem w1_225 : Jvm.Cond.methodLink "MarkedChains$Play" (58 : Nat) ({ cls := "MarkedChains$Play", name := "hasParty", desc := "(I)Z" } : Jvm.MethodName) ∈ gtb := gt_of (tm1 225 rfl) rfl
theorem w1_226 : Jvm.Cond.instanceMethod ({ cls := "MarkedChains$Play", name := "hasParty", desc := "(I)Z" } : Jvm.MethodName) ∈ gtb := gt_of (tm1 226 rfl) rfl
theorem w1_227 : Jvm.Cond.selects "MarkedChains$Play" ({ cls := "MarkedChains$Play", name := "hasParty", desc := "(I)Z" } : Jvm.MethodName) ({ cls := "MarkedChains$Play", name := "hasParty", desc := "(I)Z" } : Jvm.MethodName) ∈ gtb := gt_of (tm1 227 rfl) rfl
theorem w1_228 : Jvm.Cond.code ({ cls := "MarkedChains$Play", name := "hasParty", desc := "(I)Z" } : Jvm.MethodName) prog_3_method_4_code (2 : Nat) (Option.some Jvm.ClassFile.FieldType.boolean) ∈ gtb := gt_of (tm1 228 rfl) rfl
theorem w1_229 : Jvm.Cond.methodLink "MarkedChains$Run" (122 : Nat) ({ cls := "MarkedChains$Play", name := "isHonest", desc := "(I)Z" } : Jvm.MethodName) ∈ gtb := gt_of (tm1 229 rfl) rfl
theorem w1_230 : Jvm.Cond.instanceMethod ({ cls := "MarkedChains$Play", name := "isHonest", desc := "(I)Z" } : Jvm.MethodName) ∈ gtb := gt_of (tm1 230 rfl) rfl
theorem w1_231 : Jvm.Cond.selects "MarkedChains$Play" ({ cls := "MarkedChains$Play", name := "isHonest", desc := "(I)Z" } : Jvm.MethodName) ({ cls := "MarkedChains$Play", name := "isHonest", desc := "(I)Z" } : Jvm.MethodName) ∈ gtb := gt_of (tm1 231 rfl) rfl
theorem w1_232 : Jvm.Cond.code ({ cls := "MarkedChains$Play", name := "isHonest", desc := "(I)Z" } : Jvm.MethodName) prog_3_method_6_code (2 : Nat) (Option.some Jvm.ClassFile.FieldType.boolean) ∈ gtb := gt_of (tm1 232 rfl) rfl
theorem w1_234 : Jvm.Cond.static ({ cls := "MarkedChains", name := "cellOf", desc := "(II)I" } : Jvm.MethodName) ∈ gtb := gt_of (tm1 234 rfl) rfl
theorem w1_235 : Jvm.Cond.code ({ cls := "MarkedChains", name := "cellOf", desc := "(II)I" } : Jvm.MethodName) prog_1_method_54_code (2 : Nat) (Option.some Jvm.ClassFile.FieldType.int) ∈ gtb := gt_of (tm1 235 rfl) rfl
theorem w1_236 : Jvm.Cond.methodLink "MarkedChains$Run" (87 : Nat) ({ cls := "MarkedChains$Run", name := "sendFirst", desc := "()V" } : Jvm.MethodName) ∈ gtb := gt_of (tm1 236 rfl) rfl
theorem w1_238 : Jvm.Cond.instanceMethod ({ cls := "MarkedChains$Run", name := "sendFirst", desc := "()V" } : Jvm.MethodName) ∈ gtb := gt_of (tm1 238 rfl) rfl
theorem w1_239 : Jvm.Cond.code ({ cls := "MarkedChains$Run", name := "sendFirst", desc := "()V" } : Jvm.MethodName) prog_5_method_5_code (2 : Nat) (Option.none : Option Jvm.ClassFile.FieldType) ∈ gtb := gt_of (tm1 239 rfl) rfl
theorem w2_0 : Jvm.Cond.methodLink "MarkedChains$Run" (129 : Nat) ({ cls := "MarkedChains$Run", name := "sendOthers", desc := "(IIII)V" } : Jvm.MethodName) ∈ gtb := gt_of (tm2 0 rfl) rfl
theorem w2_2 : Jvm.Cond.instanceMethod ({ cls := "MarkedChains$Run", name := "sendOthers", desc := "(IIII)V" } : Jvm.MethodName) ∈ gtb := gt_of (tm2 2 rfl) rfl
theorem w2_3 : Jvm.Cond.code ({ cls := "MarkedChains$Run", name := "sendOthers", desc := "(IIII)V" } : Jvm.MethodName) prog_5_method_8_code (7 : Nat) (Option.none : Option Jvm.ClassFile.FieldType) ∈ gtb := gt_of (tm2 3 rfl) rfl
theorem w2_4 : Jvm.Cond.methodLink "MarkedChains$Run" (140 : Nat) ({ cls := "MarkedChains$Chain", name := "with", desc := "(II)I" } : Jvm.MethodName) ∈ gtb := gt_of (tm2 4 rfl) rfl
theorem w2_5 : Jvm.Cond.static ({ cls := "MarkedChains$Chain", name := "with", desc := "(II)I" } : Jvm.MethodName) ∈ gtb := gt_of (tm2 5 rfl) rfl
theorem w2_6 : Jvm.Cond.code ({ cls := "MarkedChains$Chain", name := "with", desc := "(II)I" } : Jvm.MethodName) prog_2_method_4_code (3 : Nat) (Option.some Jvm.ClassFile.FieldType.int) ∈ gtb := gt_of (tm2 6 rfl) rfl
theorem w2_7 : Jvm.Cond.methodLink "MarkedChains$Chain" (9 : Nat) ({ cls := "MarkedChains$Chain", name := "size", desc := "(I)I" } : Jvm.MethodName) ∈ gtb := gt_of (tm2 7 rfl) rfl
theorem w2_8 : Jvm.Cond.static ({ cls := "MarkedChains$Chain", name := "size", desc := "(I)I" } : Jvm.MethodName) ∈ gtb := gt_of (tm2 8 rfl) rfl
theorem w2_9 : Jvm.Cond.code ({ cls := "MarkedChains$Chain", name := "size", desc := "(I)I" } : Jvm.MethodName) prog_2_method_2_code (1 : Nat) (Option.some Jvm.ClassFile.FieldType.int) ∈ gtb := gt_of (tm2 9 rfl) rfl
theorem w2_10 : Jvm.Cond.methodLink "MarkedChains$Run" (143 : Nat) ({ cls := "MarkedChains$Route", name := "of", desc := "(III)I" } : Jvm.MethodName) ∈ gtb := gt_of (tm2 10 rfl) rfl
theorem w2_11 : Jvm.Cond.static ({ cls := "MarkedChains$Route", name := "of", desc := "(III)I" } : Jvm.MethodName) ∈ gtb := gt_of (tm2 11 rfl) rfl
theorem w2_12 : Jvm.Cond.code ({ cls := "MarkedChains$Route", name := "of", desc := "(III)I" } : Jvm.MethodName) prog_4_method_2_code (3 : Nat) (Option.some Jvm.ClassFile.FieldType.int) ∈ gtb := gt_of (tm2 12 rfl) rfl
theorem w2_13 : Jvm.Cond.methodLink "MarkedChains$Run" (146 : Nat) ({ cls := "MarkedChains$Run", name := "post", desc := "(III)V" } : Jvm.MethodName) ∈ gtb := gt_of (tm2 13 rfl) rfl
theorem w2_15 : Jvm.Cond.instanceMethod ({ cls := "MarkedChains$Run", name := "post", desc := "(III)V" } : Jvm.MethodName) ∈ gtb := gt_of (tm2 15 rfl) rfl
theorem w2_16 : Jvm.Cond.code ({ cls := "MarkedChains$Run", name := "post", desc := "(III)V" } : Jvm.MethodName) prog_5_method_11_code (5 : Nat) (Option.none : Option Jvm.ClassFile.FieldType) ∈ gtb := gt_of (tm2 16 rfl) rfl
theorem w2_17 : Jvm.Cond.methodLink "MarkedChains$Run" (156 : Nat) ({ cls := "MarkedChains$Route", name := "roundOf", desc := "(I)I" } : Jvm.MethodName) ∈ gtb := gt_of (tm2 17 rfl) rfl
theorem w2_18 : Jvm.Cond.static ({ cls := "MarkedChains$Route", name := "roundOf", desc := "(I)I" } : Jvm.MethodName) ∈ gtb := gt_of (tm2 18 rfl) rfl
theorem w2_19 : Jvm.Cond.code ({ cls := "MarkedChains$Route", name := "roundOf", desc := "(I)I" } : Jvm.MethodName) prog_4_method_3_code (1 : Nat) (Option.some Jvm.ClassFile.FieldType.int) ∈ gtb := gt_of (tm2 19 rfl) rfl
theorem w2_20 : Jvm.Cond.methodLink "MarkedChains$Run" (90 : Nat) ({ cls := "MarkedChains$Run", name := "relayAll", desc := "(I)V" } : Jvm.MethodName) ∈ gtb := gt_of (tm2 20 rfl) rfl
theorem w2_22 : Jvm.Cond.instanceMethod ({ cls := "MarkedChains$Run", name := "relayAll", desc := "(I)V" } : Jvm.MethodName) ∈ gtb := gt_of (tm2 22 rfl) rfl
theorem w2_23 : Jvm.Cond.code ({ cls := "MarkedChains$Run", name := "relayAll", desc := "(I)V" } : Jvm.MethodName) prog_5_method_6_code (5 : Nat) (Option.none : Option Jvm.ClassFile.FieldType) ∈ gtb := gt_of (tm2 23 rfl) rfl
theorem w2_24 : Jvm.Cond.methodLink "MarkedChains$Run" (136 : Nat) ({ cls := "MarkedChains$Run", name := "relays", desc := "(II)Z" } : Jvm.MethodName) ∈ gtb := gt_of (tm2 24 rfl) rfl
theorem w2_25 : Jvm.Cond.instanceMethod ({ cls := "MarkedChains$Run", name := "relays", desc := "(II)Z" } : Jvm.MethodName) ∈ gtb := gt_of (tm2 25 rfl) rfl
theorem w2_26 : Jvm.Cond.selects "MarkedChains$Run" ({ cls := "MarkedChains$Run", name := "relays", desc := "(II)Z" } : Jvm.MethodName) ({ cls := "MarkedChains$Run", name := "relays", desc := "(II)Z" } : Jvm.MethodName) ∈ gtb := gt_of (tm2 26 rfl) rfl
theorem w2_27 : Jvm.Cond.code ({ cls := "MarkedChains$Run", name := "relays", desc := "(II)Z" } : Jvm.MethodName) prog_5_method_7_code (7 : Nat) (Option.some Jvm.ClassFile.FieldType.boolean) ∈ gtb := gt_of (tm2 27 rfl) rfl
theorem w2_28 : Jvm.Cond.methodLink "MarkedChains$Run" (94 : Nat) ({ cls := "MarkedChains$Run", name := "sendPlans", desc := "(I)V" } : Jvm.MethodName) ∈ gtb := gt_of (tm2 28 rfl) rfl
theorem w2_30 : Jvm.Cond.instanceMethod ({ cls := "MarkedChains$Run", name := "sendPlans", desc := "(I)V" } : Jvm.MethodName) ∈ gtb := gt_of (tm2 30 rfl) rfl
theorem w2_31 : Jvm.Cond.code ({ cls := "MarkedChains$Run", name := "sendPlans", desc := "(I)V" } : Jvm.MethodName) prog_5_method_9_code (5 : Nat) (Option.none : Option Jvm.ClassFile.FieldType) ∈ gtb := gt_of (tm2 31 rfl) rfl
theorem w2_32 : Jvm.Cond.methodLink "MarkedChains$Run" (159 : Nat) ({ cls := "MarkedChains$Route", name := "fromOf", desc := "(I)I" } : Jvm.MethodName) ∈ gtb := gt_of (tm2 32 rfl) rfl
theorem w2_33 : Jvm.Cond.static ({ cls := "MarkedChains$Route", name := "fromOf", desc := "(I)I" } : Jvm.MethodName) ∈ gtb := gt_of (tm2 33 rfl) rfl
theorem w2_34 : Jvm.Cond.code ({ cls := "MarkedChains$Route", name := "fromOf", desc := "(I)I" } : Jvm.MethodName) prog_4_method_4_code (1 : Nat) (Option.some Jvm.ClassFile.FieldType.int) ∈ gtb := gt_of (tm2 34 rfl) rfl
theorem w2_35 : Jvm.Cond.methodLink "MarkedChains$Run" (168 : Nat) ({ cls := "MarkedChains$Run", name := "canMark", desc := "(III)Z" } : Jvm.MethodName) ∈ gtb := gt_of (tm2 35 rfl) rfl
theorem w2_37 : Jvm.Cond.instanceMethod ({ cls := "MarkedChains$Run", name := "canMark", desc := "(III)Z" } : Jvm.MethodName) ∈ gtb := gt_of (tm2 37 rfl) rfl
theorem w2_38 : Jvm.Cond.code ({ cls := "MarkedChains$Run", name := "canMark", desc := "(III)Z" } : Jvm.MethodName) prog_5_method_10_code (5 : Nat) (Option.some Jvm.ClassFile.FieldType.boolean) ∈ gtb := gt_of (tm2 38 rfl) rfl
theorem w2_39 : Jvm.Cond.methodLink "MarkedChains$Run" (172 : Nat) ({ cls := "MarkedChains$Chain", name := "size", desc := "(I)I" } : Jvm.MethodName) ∈ gtb := gt_of (tm2 39 rfl) rfl
theorem w2_40 : Jvm.Cond.methodLink "MarkedChains$Run" (175 : Nat) ({ cls := "MarkedChains$Chain", name := "markAt", desc := "(II)I" } : Jvm.MethodName) ∈ gtb := gt_of (tm2 40 rfl) rfl
theorem w2_41 : Jvm.Cond.static ({ cls := "MarkedChains$Chain", name := "markAt", desc := "(II)I" } : Jvm.MethodName) ∈ gtb := gt_of (tm2 41 rfl) rfl
theorem w2_42 : Jvm.Cond.code ({ cls := "MarkedChains$Chain", name := "markAt", desc := "(II)I" } : Jvm.MethodName) prog_2_method_3_code (2 : Nat) (Option.some Jvm.ClassFile.FieldType.int) ∈ gtb := gt_of (tm2 42 rfl) rfl
theorem w2_43 : Jvm.Cond.methodLink "MarkedChains$Run" (97 : Nat) ({ cls := "MarkedChains$Run", name := "rowOf", desc := "(I)I" } : Jvm.MethodName) ∈ gtb := gt_of (tm2 43 rfl) rfl
theorem w2_44 : Jvm.Cond.static ({ cls := "MarkedChains$Run", name := "rowOf", desc := "(I)I" } : Jvm.MethodName) ∈ gtb := gt_of (tm2 44 rfl) rfl
theorem w2_45 : Jvm.Cond.code ({ cls := "MarkedChains$Run", name := "rowOf", desc := "(I)I" } : Jvm.MethodName) prog_5_method_16_code (1 : Nat) (Option.some Jvm.ClassFile.FieldType.int) ∈ gtb := gt_of (tm2 45 rfl) rfl
theorem w2_46 : Jvm.Cond.methodLink "MarkedChains$Run" (101 : Nat) ({ cls := "java/lang/System", name := "arraycopy", desc := "(Ljava/lang/Object;ILjava/lang/Object;II)V" } : Jvm.MethodName) ∈ gtb := gt_of (tm2 46 rfl) rfl
theorem w2_47 : Jvm.Cond.static ({ cls := "java/lang/System", name := "arraycopy", desc := "(Ljava/lang/Object;ILjava/lang/Object;II)V" } : Jvm.MethodName) ∈ gtb := gt_of (tm2 47 rfl) rfl
theorem w2_48 : Jvm.Cond.native ({ cls := "java/lang/System", name := "arraycopy", desc := "(Ljava/lang/Object;ILjava/lang/Object;II)V" } : Jvm.MethodName) ∈ gtb := gt_of (tm2 48 rfl) rfl
theorem w2_49 : Jvm.Cond.methodLink "MarkedChains$Run" (107 : Nat) ({ cls := "MarkedChains$Run", name := "readAll", desc := "(I)V" } : Jvm.MethodName) ∈ gtb := gt_of (tm2 49 rfl) rfl
theorem w2_51 : Jvm.Cond.instanceMethod ({ cls := "MarkedChains$Run", name := "readAll", desc := "(I)V" } : Jvm.MethodName) ∈ gtb := gt_of (tm2 51 rfl) rfl
theorem w2_52 : Jvm.Cond.code ({ cls := "MarkedChains$Run", name := "readAll", desc := "(I)V" } : Jvm.MethodName) prog_5_method_12_code (4 : Nat) (Option.none : Option Jvm.ClassFile.FieldType) ∈ gtb := gt_of (tm2 52 rfl) rfl
theorem w2_53 : Jvm.Cond.methodLink "MarkedChains$Run" (178 : Nat) ({ cls := "MarkedChains$Route", name := "toOf", desc := "(I)I" } : Jvm.MethodName) ∈ gtb := gt_of (tm2 53 rfl) rfl
theorem w2_54 : Jvm.Cond.static ({ cls := "MarkedChains$Route", name := "toOf", desc := "(I)I" } : Jvm.MethodName) ∈ gtb := gt_of (tm2 54 rfl) rfl
theorem w2_55 : Jvm.Cond.code ({ cls := "MarkedChains$Route", name := "toOf", desc := "(I)I" } : Jvm.MethodName) prog_4_method_5_code (1 : Nat) (Option.some Jvm.ClassFile.FieldType.int) ∈ gtb := gt_of (tm2 55 rfl) rfl
theorem w2_56 : Jvm.Cond.methodLink "MarkedChains$Run" (181 : Nat) ({ cls := "MarkedChains$Run", name := "learn", desc := "(III)V" } : Jvm.MethodName) ∈ gtb := gt_of (tm2 56 rfl) rfl
theorem w2_58 : Jvm.Cond.instanceMethod ({ cls := "MarkedChains$Run", name := "learn", desc := "(III)V" } : Jvm.MethodName) ∈ gtb := gt_of (tm2 58 rfl) rfl
theorem w2_59 : Jvm.Cond.code ({ cls := "MarkedChains$Run", name := "learn", desc := "(III)V" } : Jvm.MethodName) prog_5_method_13_code (6 : Nat) (Option.none : Option Jvm.ClassFile.FieldType) ∈ gtb := gt_of (tm2 59 rfl) rfl
theorem w2_60 : Jvm.Cond.methodLink "MarkedChains$Run" (190 : Nat) ({ cls := "java/lang/Math", name := "min", desc := "(II)I" } : Jvm.MethodName) ∈ gtb := gt_of (tm2 60 rfl) rfl
theorem w2_61 : Jvm.Cond.static ({ cls := "java/lang/Math", name := "min", desc := "(II)I" } : Jvm.MethodName) ∈ gtb := gt_of (tm2 61 rfl) rfl
theorem w2_62 : Jvm.Cond.code ({ cls := "java/lang/Math", name := "min", desc := "(II)I" } : Jvm.MethodName) prog_10_method_69_code (2 : Nat) (Option.some Jvm.ClassFile.FieldType.int) ∈ gtb := gt_of (tm2 62 rfl) rfl
theorem w2_63 : Jvm.Cond.methodLink "MarkedChains$Run" (184 : Nat) ({ cls := "MarkedChains$Run", name := "counts", desc := "(II)Z" } : Jvm.MethodName) ∈ gtb := gt_of (tm2 63 rfl) rfl
theorem w2_65 : Jvm.Cond.instanceMethod ({ cls := "MarkedChains$Run", name := "counts", desc := "(II)Z" } : Jvm.MethodName) ∈ gtb := gt_of (tm2 65 rfl) rfl
theorem w2_66 : Jvm.Cond.code ({ cls := "MarkedChains$Run", name := "counts", desc := "(II)Z" } : Jvm.MethodName) prog_5_method_14_code (3 : Nat) (Option.some Jvm.ClassFile.FieldType.boolean) ∈ gtb := gt_of (tm2 66 rfl) rfl
theorem w2_67 : Jvm.Cond.methodLink "MarkedChains$Run" (187 : Nat) ({ cls := "MarkedChains$Run", name := "takes", desc := "(III)Z" } : Jvm.MethodName) ∈ gtb := gt_of (tm2 67 rfl) rfl
theorem w2_69 : Jvm.Cond.instanceMethod ({ cls := "MarkedChains$Run", name := "takes", desc := "(III)Z" } : Jvm.MethodName) ∈ gtb := gt_of (tm2 69 rfl) rfl
theorem w2_70 : Jvm.Cond.code ({ cls := "MarkedChains$Run", name := "takes", desc := "(III)Z" } : Jvm.MethodName) prog_5_method_15_code (7 : Nat) (Option.some Jvm.ClassFile.FieldType.boolean) ∈ gtb := gt_of (tm2 70 rfl) rfl
theorem w2_71 : Jvm.Cond.fieldLink "MarkedChains" (10 : Nat) "MarkedChains" "play" "LMarkedChains$Play;" ∈ gtb := gt_of (tm2 71 rfl) rfl
theorem w2_72 : Jvm.Cond.fieldLink "MarkedChains" (19 : Nat) "MarkedChains" "tape" "LMarkedChains$Tape;" ∈ gtb := gt_of (tm2 72 rfl) rfl
theorem w2_73 : Jvm.Cond.fieldLink "MarkedChains" (28 : Nat) "MarkedChains" "now" "LMarkedChains$Run;" ∈ gtb := gt_of (tm2 73 rfl) rfl
theorem w2_74 : Jvm.Cond.fieldLink "MarkedChains" (32 : Nat) "MarkedChains" "trial" "LMarkedChains$Run;" ∈ gtb := gt_of (tm2 74 rfl) rfl
theorem w2_75 : Jvm.Cond.fieldLink "MarkedChains" (35 : Nat) "MarkedChains" "past" "[LMarkedChains$Play;" ∈ gtb := gt_of (tm2 75 rfl) rfl
theorem w2_76 : Jvm.Cond.fieldLink "MarkedChains" (39 : Nat) "MarkedChains" "shelves" "[LMarkedChains$Play;" ∈ gtb := gt_of (tm2 76 rfl) rfl
theorem w2_77 : Jvm.Cond.fieldLink "MarkedChains" (42 : Nat) "MarkedChains" "pastCount" "I" ∈ gtb := gt_of (tm2 77 rfl) rfl
theorem w2_78 : Jvm.Cond.fieldLink "MarkedChains" (46 : Nat) "MarkedChains" "shelvesKept" "I" ∈ gtb := gt_of (tm2 78 rfl) rfl
theorem w2_79 : Jvm.Cond.laysFinal "MarkedChains" "MarkedChains" "play" "LMarkedChains$Play;" ∈ gtb := gt_of (tm2 79 rfl) rfl
theorem w2_81 : Jvm.Cond.laysFinal "MarkedChains" "MarkedChains" "tape" "LMarkedChains$Tape;" ∈ gtb := gt_of (tm2 81 rfl) rfl
theorem w2_83 : Jvm.Cond.laysFinal "MarkedChains" "MarkedChains" "now" "LMarkedChains$Run;" ∈ gtb := gt_of (tm2 83 rfl) rfl
theorem w2_85 : Jvm.Cond.laysFinal "MarkedChains" "MarkedChains" "trial" "LMarkedChains$Run;" ∈ gtb := gt_of (tm2 85 rfl) rfl
theorem w2_87 : Jvm.Cond.laysFinal "MarkedChains" "MarkedChains" "past" "[LMarkedChains$Play;" ∈ gtb := gt_of (tm2 87 rfl) rfl
theorem w2_89 : Jvm.Cond.laysFinal "MarkedChains" "MarkedChains" "shelves" "[LMarkedChains$Play;" ∈ gtb := gt_of (tm2 89 rfl) rfl
theorem w2_91 : Jvm.Cond.lays "MarkedChains" "MarkedChains" "pastCount" "I" ∈ gtb := gt_of (tm2 91 rfl) rfl
theorem w2_93 : Jvm.Cond.lays "MarkedChains" "MarkedChains" "shelvesKept" "I" ∈ gtb := gt_of (tm2 93 rfl) rfl
theorem w2_96 : Jvm.Cond.methodLink "MarkedChainsLaw" (13 : Nat) ({ cls := "MarkedChains", name := "feed", desc := "(IIIII)I" } : Jvm.MethodName) ∈ gtb := gt_of (tm2 96 rfl) rfl
theorem w2_97 : Jvm.Cond.instanceMethod ({ cls := "MarkedChains", name := "feed", desc := "(IIIII)I" } : Jvm.MethodName) ∈ gtb := gt_of (tm2 97 rfl) rfl
theorem w2_98 : Jvm.Cond.selects "MarkedChains" ({ cls := "MarkedChains", name := "feed", desc := "(IIIII)I" } : Jvm.MethodName) ({ cls := "MarkedChains", name := "feed", desc := "(IIIII)I" } : Jvm.MethodName) ∈ gtb := gt_of (tm2 98 rfl) rfl
theorem w2_99 : Jvm.Cond.code ({ cls := "MarkedChains", name := "feed", desc := "(IIIII)I" } : Jvm.MethodName) prog_1_method_2_code (6 : Nat) (Option.some Jvm.ClassFile.FieldType.int) ∈ gtb := gt_of (tm2 99 rfl) rfl
theorem w2_100 : Jvm.Cond.methodLink "MarkedChains" (55 : Nat) ({ cls := "MarkedChains$Tape", name := "append", desc := "(I)V" } : Jvm.MethodName) ∈ gtb := gt_of (tm2 100 rfl) rfl
theorem w2_101 : Jvm.Cond.instanceMethod ({ cls := "MarkedChains$Tape", name := "append", desc := "(I)V" } : Jvm.MethodName) ∈ gtb := gt_of (tm2 101 rfl) rfl
theorem w2_102 : Jvm.Cond.selects "MarkedChains$Tape" ({ cls := "MarkedChains$Tape", name := "append", desc := "(I)V" } : Jvm.MethodName) ({ cls := "MarkedChains$Tape", name := "append", desc := "(I)V" } : Jvm.MethodName) ∈ gtb := gt_of (tm2 102 rfl) rfl
theorem w2_103 : Jvm.Cond.code ({ cls := "MarkedChains$Tape", name := "append", desc := "(I)V" } : Jvm.MethodName) prog_6_method_2_code (3 : Nat) (Option.none : Option Jvm.ClassFile.FieldType) ∈ gtb := gt_of (tm2 103 rfl) rfl
theorem w2_104 : Jvm.Cond.methodLink "MarkedChainsLaw" (18 : Nat) ({ cls := "MarkedChains", name := "end", desc := "(I)I" } : Jvm.MethodName) ∈ gtb := gt_of (tm2 104 rfl) rfl
theorem w2_105 : Jvm.Cond.instanceMethod ({ cls := "MarkedChains", name := "end", desc := "(I)I" } : Jvm.MethodName) ∈ gtb := gt_of (tm2 105 rfl) rfl
theorem w2_106 : Jvm.Cond.selects "MarkedChains" ({ cls := "MarkedChains", name := "end", desc := "(I)I" } : Jvm.MethodName) ({ cls := "MarkedChains", name := "end", desc := "(I)I" } : Jvm.MethodName) ∈ gtb := gt_of (tm2 106 rfl) rfl
theorem w2_107 : Jvm.Cond.code ({ cls := "MarkedChains", name := "end", desc := "(I)I" } : Jvm.MethodName) prog_1_method_3_code (2 : Nat) (Option.some Jvm.ClassFile.FieldType.int) ∈ gtb := gt_of (tm2 107 rfl) rfl
theorem w2_108 : Jvm.Cond.methodLink "MarkedChainsLaw" (23 : Nat) ({ cls := "MarkedChains", name := "tell", desc := "()I" } : Jvm.MethodName) ∈ gtb := gt_of (tm2 108 rfl) rfl
theorem w2_109 : Jvm.Cond.instanceMethod ({ cls := "MarkedChains", name := "tell", desc := "()I" } : Jvm.MethodName) ∈ gtb := gt_of (tm2 109 rfl) rfl
theorem w2_110 : Jvm.Cond.selects "MarkedChains" ({ cls := "MarkedChains", name := "tell", desc := "()I" } : Jvm.MethodName) ({ cls := "MarkedChains", name := "tell", desc := "()I" } : Jvm.MethodName) ∈ gtb := gt_of (tm2 110 rfl) rfl
theorem w2_111 : Jvm.Cond.code ({ cls := "MarkedChains", name := "tell", desc := "()I" } : Jvm.MethodName) prog_1_method_4_code (1 : Nat) (Option.some Jvm.ClassFile.FieldType.int) ∈ gtb := gt_of (tm2 111 rfl) rfl
theorem w2_112 : Jvm.Cond.methodLink "MarkedChains" (59 : Nat) ({ cls := "MarkedChains$Tape", name := "read", desc := "()V" } : Jvm.MethodName) ∈ gtb := gt_of (tm2 112 rfl) rfl
theorem w2_113 : Jvm.Cond.instanceMethod ({ cls := "MarkedChains$Tape", name := "read", desc := "()V" } : Jvm.MethodName) ∈ gtb := gt_of (tm2 113 rfl) rfl
theorem w2_114 : Jvm.Cond.selects "MarkedChains$Tape" ({ cls := "MarkedChains$Tape", name := "read", desc := "()V" } : Jvm.MethodName) ({ cls := "MarkedChains$Tape", name := "read", desc := "()V" } : Jvm.MethodName) ∈ gtb := gt_of (tm2 114 rfl) rfl
theorem w2_115 : Jvm.Cond.code ({ cls := "MarkedChains$Tape", name := "read", desc := "()V" } : Jvm.MethodName) prog_6_method_3_code (2 : Nat) (Option.none : Option Jvm.ClassFile.FieldType) ∈ gtb := gt_of (tm2 115 rfl) rfl
theorem w2_116 : Jvm.Cond.methodLink "MarkedChains$Tape" (35 : Nat) ({ cls := "MarkedChains$Play", name := "clear", desc := "()V" } : Jvm.MethodName) ∈ gtb := gt_of (tm2 116 rfl) rfl
theorem w2_117 : Jvm.Cond.methodLink "MarkedChains$Tape" (38 : Nat) ({ cls := "MarkedChains$Tape", name := "readWord", desc := "()V" } : Jvm.MethodName) ∈ gtb := gt_of (tm2 117 rfl) rfl
theorem w2_119 : Jvm.Cond.instanceMethod ({ cls := "MarkedChains$Tape", name := "readWord", desc := "()V" } : Jvm.MethodName) ∈ gtb := gt_of (tm2 119 rfl) rfl
theorem w2_120 : Jvm.Cond.code ({ cls := "MarkedChains$Tape", name := "readWord", desc := "()V" } : Jvm.MethodName) prog_6_method_15_code (1 : Nat) (Option.none : Option Jvm.ClassFile.FieldType) ∈ gtb := gt_of (tm2 120 rfl) rfl
theorem w2_121 : Jvm.Cond.methodLink "MarkedChains$Tape" (58 : Nat) ({ cls := "MarkedChains$Tape", name := "skipBlanks", desc := "()V" } : Jvm.MethodName) ∈ gtb := gt_of (tm2 121 rfl) rfl
theorem w2_123 : Jvm.Cond.instanceMethod ({ cls := "MarkedChains$Tape", name := "skipBlanks", desc := "()V" } : Jvm.MethodName) ∈ gtb := gt_of (tm2 123 rfl) rfl
theorem w2_124 : Jvm.Cond.code ({ cls := "MarkedChains$Tape", name := "skipBlanks", desc := "()V" } : Jvm.MethodName) prog_6_method_17_code (1 : Nat) (Option.none : Option Jvm.ClassFile.FieldType) ∈ gtb := gt_of (tm2 124 rfl) rfl
theorem w2_126 : Jvm.Cond.methodLink "MarkedChains$Tape" (43 : Nat) ({ cls := "MarkedChains$Tape", name := "isWord", desc := "(Ljava/lang/String;)Z" } : Jvm.MethodName) ∈ gtb := gt_of (tm2 126 rfl) rfl
theorem w2_128 : Jvm.Cond.instanceMethod ({ cls := "MarkedChains$Tape", name := "isWord", desc := "(Ljava/lang/String;)Z" } : Jvm.MethodName) ∈ gtb := gt_of (tm2 128 rfl) rfl
theorem w2_129 : Jvm.Cond.code ({ cls := "MarkedChains$Tape", name := "isWord", desc := "(Ljava/lang/String;)Z" } : Jvm.MethodName) prog_6_method_16_code (3 : Nat) (Option.some Jvm.ClassFile.FieldType.boolean) ∈ gtb := gt_of (tm2 129 rfl) rfl
theorem w2_130 : Jvm.Cond.methodLink "MarkedChains$Tape" (177 : Nat) ({ cls := "java/lang/String", name := "length", desc := "()I" } : Jvm.MethodName) ∈ gtb := gt_of (tm2 130 rfl) rfl
theorem w2_131 : Jvm.Cond.instanceMethod ({ cls := "java/lang/String", name := "length", desc := "()I" } : Jvm.MethodName) ∈ gtb := gt_of (tm2 131 rfl) rfl
theorem w2_132 : Jvm.Cond.selects "java/lang/String" ({ cls := "java/lang/String", name := "length", desc := "()I" } : Jvm.MethodName) ({ cls := "java/lang/String", name := "length", desc := "()I" } : Jvm.MethodName) ∈ gtb := gt_of (tm2 132 rfl) rfl
theorem w2_133 : Jvm.Cond.code ({ cls := "java/lang/String", name := "length", desc := "()I" } : Jvm.MethodName) prog_11_method_54_code (1 : Nat) (Option.some Jvm.ClassFile.FieldType.int) ∈ gtb := gt_of (tm2 133 rfl) rfl
theorem w2_134 : Jvm.Cond.methodLink "java/lang/String" (335 : Nat) ({ cls := "java/lang/String", name := "coder", desc := "()B" } : Jvm.MethodName) ∈ gtb := gt_of (tm2 134 rfl) rfl
theorem w2_135 : Jvm.Cond.instanceMethod ({ cls := "java/lang/String", name := "coder", desc := "()B" } : Jvm.MethodName) ∈ gtb := gt_of (tm2 135 rfl) rfl
theorem w2_136 : Jvm.Cond.selects "java/lang/String" ({ cls := "java/lang/String", name := "coder", desc := "()B" } : Jvm.MethodName) ({ cls := "java/lang/String", name := "coder", desc := "()B" } : Jvm.MethodName) ∈ gtb := gt_of (tm2 136 rfl) rfl
theorem w2_137 : Jvm.Cond.code ({ cls := "java/lang/String", name := "coder", desc := "()B" } : Jvm.MethodName) prog_11_method_152_code (1 : Nat) (Option.some Jvm.ClassFile.FieldType.byte) ∈ gtb := gt_of (tm2 137 rfl) rfl
theorem w2_138 : Jvm.Cond.fieldLink "java/lang/String" (38 : Nat) "java/lang/String" "COMPACT_STRINGS" "Z" ∈ gtb := gt_of (tm2 138 rfl) rfl
theorem w2_140 : Jvm.Cond.methodLink "MarkedChains$Tape" (181 : Nat) ({ cls := "java/lang/String", name := "charAt", desc := "(I)C" } : Jvm.MethodName) ∈ gtb := gt_of (tm2 140 rfl) rfl
theorem w2_141 : Jvm.Cond.instanceMethod ({ cls := "java/lang/String", name := "charAt", desc := "(I)C" } : Jvm.MethodName) ∈ gtb := gt_of (tm2 141 rfl) rfl
theorem w2_142 : Jvm.Cond.selects "java/lang/String" ({ cls := "java/lang/String", name := "charAt", desc := "(I)C" } : Jvm.MethodName) ({ cls := "java/lang/String", name := "charAt", desc := "(I)C" } : Jvm.MethodName) ∈ gtb := gt_of (tm2 142 rfl) rfl
theorem w2_143 : Jvm.Cond.code ({ cls := "java/lang/String", name := "charAt", desc := "(I)C" } : Jvm.MethodName) prog_11_method_56_code (2 : Nat) (Option.some Jvm.ClassFile.FieldType.char) ∈ gtb := gt_of (tm2 143 rfl) rfl
theorem w2_144 : Jvm.Cond.methodLink "java/lang/String" (492 : Nat) ({ cls := "java/lang/String", name := "isLatin1", desc := "()Z" } : Jvm.MethodName) ∈ gtb := gt_of (tm2 144 rfl) rfl
theorem w2_145 : Jvm.Cond.instanceMethod ({ cls := "java/lang/String", name := "isLatin1", desc := "()Z" } : Jvm.MethodName) ∈ gtb := gt_of (tm2 145 rfl) rfl
theorem w2_146 : Jvm.Cond.selects "java/lang/String" ({ cls := "java/lang/String", name := "isLatin1", desc := "()Z" } : Jvm.MethodName) ({ cls := "java/lang/String", name := "isLatin1", desc := "()Z" } : Jvm.MethodName) ∈ gtb := gt_of (tm2 146 rfl) rfl
theorem w2_147 : Jvm.Cond.code ({ cls := "java/lang/String", name := "isLatin1", desc := "()Z" } : Jvm.MethodName) prog_11_method_154_code (1 : Nat) (Option.some Jvm.ClassFile.FieldType.boolean) ∈ gtb := gt_of (tm2 147 rfl) rfl
theorem w2_148 : Jvm.Cond.methodLink "java/lang/String" (495 : Nat) ({ cls := "java/lang/StringLatin1", name := "charAt", desc := "([BI)C" } : Jvm.MethodName) ∈ gtb := gt_of (tm2 148 rfl) rfl
theorem w2_149 : Jvm.Cond.static ({ cls := "java/lang/StringLatin1", name := "charAt", desc := "([BI)C" } : Jvm.MethodName) ∈ gtb := gt_of (tm2 149 rfl) rfl
theorem w2_150 : Jvm.Cond.code ({ cls := "java/lang/StringLatin1", name := "charAt", desc := "([BI)C" } : Jvm.MethodName) prog_12_method_2_code (2 : Nat) (Option.some Jvm.ClassFile.FieldType.char) ∈ gtb := gt_of (tm2 150 rfl) rfl
theorem w2_151 : Jvm.Cond.methodLink "java/lang/StringLatin1" (9 : Nat) ({ cls := "java/lang/String", name := "checkIndex", desc := "(II)V" } : Jvm.MethodName) ∈ gtb := gt_of (tm2 151 rfl) rfl
theorem w2_152 : Jvm.Cond.static ({ cls := "java/lang/String", name := "checkIndex", desc := "(II)V" } : Jvm.MethodName) ∈ gtb := gt_of (tm2 152 rfl) rfl
theorem w2_153 : Jvm.Cond.code ({ cls := "java/lang/String", name := "checkIndex", desc := "(II)V" } : Jvm.MethodName) prog_11_method_155_code (2 : Nat) (Option.none : Option Jvm.ClassFile.FieldType) ∈ gtb := gt_of (tm2 153 rfl) rfl
theorem w2_154 : Jvm.Cond.fieldLink "java/lang/String" (1053 : Nat) "jdk/internal/util/Preconditions" "SIOOBE_FORMATTER" "Ljava/util/function/BiFunction;" ∈ gtb := gt_of (tm2 154 rfl) rfl
theorem w2_156 : Jvm.Cond.methodLink "java/lang/String" (1059 : Nat) ({ cls := "jdk/internal/util/Preconditions", name := "checkIndex", desc := "(IILjava/util/function/BiFunction;)I" } : Jvm.MethodName) ∈ gtb := gt_of (tm2 156 rfl) rfl
theorem w2_157 : Jvm.Cond.static ({ cls := "jdk/internal/util/Preconditions", name := "checkIndex", desc := "(IILjava/util/function/BiFunction;)I" } : Jvm.MethodName) ∈ gtb := gt_of (tm2 157 rfl) rfl
theorem w2_158 : Jvm.Cond.code ({ cls := "jdk/internal/util/Preconditions", name := "checkIndex", desc := "(IILjava/util/function/BiFunction;)I" } : Jvm.MethodName) prog_16_method_11_code (3 : Nat) (Option.some Jvm.ClassFile.FieldType.int) ∈ gtb := gt_of (tm2 158 rfl) rfl
theorem w2_159 : Jvm.Cond.methodLink "java/lang/String" (498 : Nat) ({ cls := "java/lang/StringUTF16", name := "charAt", desc := "([BI)C" } : Jvm.MethodName) ∈ gtb := gt_of (tm2 159 rfl) rfl
theorem w2_160 : Jvm.Cond.static ({ cls := "java/lang/StringUTF16", name := "charAt", desc := "([BI)C" } : Jvm.MethodName) ∈ gtb := gt_of (tm2 160 rfl) rfl
theorem w2_161 : Jvm.Cond.code ({ cls := "java/lang/StringUTF16", name := "charAt", desc := "([BI)C" } : Jvm.MethodName) prog_13_method_83_code (2 : Nat) (Option.some Jvm.ClassFile.FieldType.char) ∈ gtb := gt_of (tm2 161 rfl) rfl
theorem w2_162 : Jvm.Cond.methodLink "java/lang/StringUTF16" (67 : Nat) ({ cls := "java/lang/StringUTF16", name := "checkIndex", desc := "(I[B)V" } : Jvm.MethodName) ∈ gtb := gt_of (tm2 162 rfl) rfl
theorem w2_163 : Jvm.Cond.static ({ cls := "java/lang/StringUTF16", name := "checkIndex", desc := "(I[B)V" } : Jvm.MethodName) ∈ gtb := gt_of (tm2 163 rfl) rfl
theorem w2_164 : Jvm.Cond.code ({ cls := "java/lang/StringUTF16", name := "checkIndex", desc := "(I[B)V" } : Jvm.MethodName) prog_13_method_91_code (2 : Nat) (Option.none : Option Jvm.ClassFile.FieldType) ∈ gtb := gt_of (tm2 164 rfl) rfl
theorem w2_165 : Jvm.Cond.methodLink "java/lang/StringUTF16" (48 : Nat) ({ cls := "java/lang/StringUTF16", name := "length", desc := "([B)I" } : Jvm.MethodName) ∈ gtb := gt_of (tm2 165 rfl) rfl
theorem w2_166 : Jvm.Cond.static ({ cls := "java/lang/StringUTF16", name := "length", desc := "([B)I" } : Jvm.MethodName) ∈ gtb := gt_of (tm2 166 rfl) rfl
theorem w2_167 : Jvm.Cond.code ({ cls := "java/lang/StringUTF16", name := "length", desc := "([B)I" } : Jvm.MethodName) prog_13_method_6_code (1 : Nat) (Option.some Jvm.ClassFile.FieldType.int) ∈ gtb := gt_of (tm2 167 rfl) rfl
theorem w2_168 : Jvm.Cond.methodLink "java/lang/StringUTF16" (414 : Nat) ({ cls := "java/lang/String", name := "checkIndex", desc := "(II)V" } : Jvm.MethodName) ∈ gtb := gt_of (tm2 168 rfl) rfl
theorem w2_169 : Jvm.Cond.methodLink "java/lang/StringUTF16" (71 : Nat) ({ cls := "java/lang/StringUTF16", name := "getChar", desc := "([BI)C" } : Jvm.MethodName) ∈ gtb := gt_of (tm2 169 rfl) rfl
theorem w2_170 : Jvm.Cond.static ({ cls := "java/lang/StringUTF16", name := "getChar", desc := "([BI)C" } : Jvm.MethodName) ∈ gtb := gt_of (tm2 170 rfl) rfl
theorem w2_171 : Jvm.Cond.code ({ cls := "java/lang/StringUTF16", name := "getChar", desc := "([BI)C" } : Jvm.MethodName) prog_13_method_5_code (2 : Nat) (Option.some Jvm.ClassFile.FieldType.char) ∈ gtb := gt_of (tm2 171 rfl) rfl
theorem w2_172 : Jvm.Cond.fieldLink "java/lang/StringUTF16" (44 : Nat) "java/lang/StringUTF16" "$assertionsDisabled" "Z" ∈ gtb := gt_of (tm2 172 rfl) rfl
theorem w2_174 : Jvm.Cond.fieldLink "java/lang/StringUTF16" (59 : Nat) "java/lang/StringUTF16" "HI_BYTE_SHIFT" "I" ∈ gtb := gt_of (tm2 174 rfl) rfl
theorem w2_176 : Jvm.Cond.fieldLink "java/lang/StringUTF16" (63 : Nat) "java/lang/StringUTF16" "LO_BYTE_SHIFT" "I" ∈ gtb := gt_of (tm2 176 rfl) rfl
theorem w2_178 : Jvm.Cond.methodLink "MarkedChains$Tape" (47 : Nat) ({ cls := "MarkedChains$Tape", name := "blame", desc := "(II)V" } : Jvm.MethodName) ∈ gtb := gt_of (tm2 178 rfl) rfl
theorem w2_180 : Jvm.Cond.instanceMethod ({ cls := "MarkedChains$Tape", name := "blame", desc := "(II)V" } : Jvm.MethodName) ∈ gtb := gt_of (tm2 180 rfl) rfl
theorem w2_181 : Jvm.Cond.code ({ cls := "MarkedChains$Tape", name := "blame", desc := "(II)V" } : Jvm.MethodName) prog_6_method_19_code (3 : Nat) (Option.none : Option Jvm.ClassFile.FieldType) ∈ gtb := gt_of (tm2 181 rfl) rfl
theorem w2_182 : Jvm.Cond.methodLink "MarkedChains$Tape" (51 : Nat) ({ cls := "MarkedChains$Tape", name := "readNumber", desc := "(II)I" } : Jvm.MethodName) ∈ gtb := gt_of (tm2 182 rfl) rfl
theorem w2_184 : Jvm.Cond.instanceMethod ({ cls := "MarkedChains$Tape", name := "readNumber", desc := "(II)I" } : Jvm.MethodName) ∈ gtb := gt_of (tm2 184 rfl) rfl
theorem w2_185 : Jvm.Cond.code ({ cls := "MarkedChains$Tape", name := "readNumber", desc := "(II)I" } : Jvm.MethodName) prog_6_method_12_code (4 : Nat) (Option.some Jvm.ClassFile.FieldType.int) ∈ gtb := gt_of (tm2 185 rfl) rfl
theorem w2_186 : Jvm.Cond.methodLink "MarkedChains$Tape" (168 : Nat) ({ cls := "MarkedChains$Tape", name := "isDigit", desc := "(C)Z" } : Jvm.MethodName) ∈ gtb := gt_of (tm2 186 rfl) rfl
theorem w2_187 : Jvm.Cond.static ({ cls := "MarkedChains$Tape", name := "isDigit", desc := "(C)Z" } : Jvm.MethodName) ∈ gtb := gt_of (tm2 187 rfl) rfl
theorem w2_188 : Jvm.Cond.code ({ cls := "MarkedChains$Tape", name := "isDigit", desc := "(C)Z" } : Jvm.MethodName) prog_6_method_18_code (1 : Nat) (Option.some Jvm.ClassFile.FieldType.boolean) ∈ gtb := gt_of (tm2 188 rfl) rfl
theorem w2_189 : Jvm.Cond.methodLink "MarkedChains$Tape" (172 : Nat) ({ cls := "java/lang/Math", name := "min", desc := "(II)I" } : Jvm.MethodName) ∈ gtb := gt_of (tm2 189 rfl) rfl
theorem w2_190 : Jvm.Cond.methodLink "MarkedChains$Tape" (61 : Nat) ({ cls := "MarkedChains$Tape", name := "readSign", desc := "(C)V" } : Jvm.MethodName) ∈ gtb := gt_of (tm2 190 rfl) rfl
theorem w2_192 : Jvm.Cond.instanceMethod ({ cls := "MarkedChains$Tape", name := "readSign", desc := "(C)V" } : Jvm.MethodName) ∈ gtb := gt_of (tm2 192 rfl) rfl
theorem w2_193 : Jvm.Cond.code ({ cls := "MarkedChains$Tape", name := "readSign", desc := "(C)V" } : Jvm.MethodName) prog_6_method_14_code (2 : Nat) (Option.none : Option Jvm.ClassFile.FieldType) ∈ gtb := gt_of (tm2 193 rfl) rfl
theorem w2_194 : Jvm.Cond.methodLink "MarkedChains$Tape" (65 : Nat) ({ cls := "MarkedChains$Tape", name := "readPart", desc := "()V" } : Jvm.MethodName) ∈ gtb := gt_of (tm2 194 rfl) rfl
theorem w2_196 : Jvm.Cond.instanceMethod ({ cls := "MarkedChains$Tape", name := "readPart", desc := "()V" } : Jvm.MethodName) ∈ gtb := gt_of (tm2 196 rfl) rfl
theorem w2_197 : Jvm.Cond.code ({ cls := "MarkedChains$Tape", name := "readPart", desc := "()V" } : Jvm.MethodName) prog_6_method_4_code (2 : Nat) (Option.none : Option Jvm.ClassFile.FieldType) ∈ gtb := gt_of (tm2 197 rfl) rfl
theorem w2_198 : Jvm.Cond.methodLink "MarkedChains$Tape" (68 : Nat) ({ cls := "MarkedChains$Tape", name := "partOf", desc := "()I" } : Jvm.MethodName) ∈ gtb := gt_of (tm2 198 rfl) rfl
theorem w2_200 : Jvm.Cond.instanceMethod ({ cls := "MarkedChains$Tape", name := "partOf", desc := "()I" } : Jvm.MethodName) ∈ gtb := gt_of (tm2 200 rfl) rfl
theorem w2_201 : Jvm.Cond.code ({ cls := "MarkedChains$Tape", name := "partOf", desc := "()I" } : Jvm.MethodName) prog_6_method_5_code (1 : Nat) (Option.some Jvm.ClassFile.FieldType.int) ∈ gtb := gt_of (tm2 201 rfl) rfl
theorem w2_211 : Jvm.Cond.methodLink "MarkedChains$Tape" (72 : Nat) ({ cls := "MarkedChains$Tape", name := "readLiars", desc := "()V" } : Jvm.MethodName) ∈ gtb := gt_of (tm2 211 rfl) rfl
theorem w2_213 : Jvm.Cond.instanceMethod ({ cls := "MarkedChains$Tape", name := "readLiars", desc := "()V" } : Jvm.MethodName) ∈ gtb := gt_of (tm2 213 rfl) rfl
theorem w2_214 : Jvm.Cond.code ({ cls := "MarkedChains$Tape", name := "readLiars", desc := "()V" } : Jvm.MethodName) prog_6_method_6_code (2 : Nat) (Option.none : Option Jvm.ClassFile.FieldType) ∈ gtb := gt_of (tm2 214 rfl) rfl
theorem w2_215 : Jvm.Cond.methodLink "MarkedChains$Tape" (116 : Nat) ({ cls := "MarkedChains$Tape", name := "readParty", desc := "()I" } : Jvm.MethodName) ∈ gtb := gt_of (tm2 215 rfl) rfl
theorem w2_217 : Jvm.Cond.instanceMethod ({ cls := "MarkedChains$Tape", name := "readParty", desc := "()I" } : Jvm.MethodName) ∈ gtb := gt_of (tm2 217 rfl) rfl
theorem w2_218 : Jvm.Cond.code ({ cls := "MarkedChains$Tape", name := "readParty", desc := "()I" } : Jvm.MethodName) prog_6_method_11_code (1 : Nat) (Option.some Jvm.ClassFile.FieldType.int) ∈ gtb := gt_of (tm2 218 rfl) rfl
theorem w2_219 : Jvm.Cond.methodLink "MarkedChains$Tape" (119 : Nat) ({ cls := "MarkedChains$Tape", name := "hasNumber", desc := "()Z" } : Jvm.MethodName) ∈ gtb := gt_of (tm2 219 rfl) rfl
theorem w2_221 : Jvm.Cond.instanceMethod ({ cls := "MarkedChains$Tape", name := "hasNumber", desc := "()Z" } : Jvm.MethodName) ∈ gtb := gt_of (tm2 221 rfl) rfl
theorem w2_222 : Jvm.Cond.code ({ cls := "MarkedChains$Tape", name := "hasNumber", desc := "()Z" } : Jvm.MethodName) prog_6_method_13_code (1 : Nat) (Option.some Jvm.ClassFile.FieldType.boolean) ∈ gtb := gt_of (tm2 222 rfl) rfl
theorem w2_223 : Jvm.Cond.methodLink "MarkedChains$Tape" (75 : Nat) ({ cls := "MarkedChains$Tape", name := "readLetter", desc := "()V" } : Jvm.MethodName) ∈ gtb := gt_of (tm2 223 rfl) rfl
theorem w2_225 : Jvm.Cond.instanceMethod ({ cls := "MarkedChains$Tape", name := "readLetter", desc := "()V" } : Jvm.MethodName) ∈ gtb := gt_of (tm2 225 rfl) rfl
theorem w2_226 : Jvm.Cond.code ({ cls := "MarkedChains$Tape", name := "readLetter", desc := "()V" } : Jvm.MethodName) prog_6_method_7_code (6 : Nat) (Option.none : Option Jvm.ClassFile.FieldType) ∈ gtb := gt_of (tm2 226 rfl) rfl
theorem w2_227 : Jvm.Cond.methodLink "MarkedChains$Tape" (126 : Nat) ({ cls := "MarkedChains$Tape", name := "readRoute", desc := "()I" } : Jvm.MethodName) ∈ gtb := gt_of (tm2 227 rfl) rfl
theorem w2_229 : Jvm.Cond.instanceMethod ({ cls := "MarkedChains$Tape", name := "readRoute", desc := "()I" } : Jvm.MethodName) ∈ gtb := gt_of (tm2 229 rfl) rfl
theorem w2_230 : Jvm.Cond.code ({ cls := "MarkedChains$Tape", name := "readRoute", desc := "()I" } : Jvm.MethodName) prog_6_method_10_code (4 : Nat) (Option.some Jvm.ClassFile.FieldType.int) ∈ gtb := gt_of (tm2 230 rfl) rfl
theorem w2_231 : Jvm.Cond.methodLink "MarkedChains$Tape" (162 : Nat) ({ cls := "MarkedChains$Route", name := "of", desc := "(III)I" } : Jvm.MethodName) ∈ gtb := gt_of (tm2 231 rfl) rfl
theorem w2_232 : Jvm.Cond.methodLink "MarkedChains$Tape" (131 : Nat) ({ cls := "MarkedChains$Chain", name := "with", desc := "(II)I" } : Jvm.MethodName) ∈ gtb := gt_of (tm2 232 rfl) rfl
theorem w2_233 : Jvm.Cond.methodLink "MarkedChains$Tape" (134 : Nat) ({ cls := "MarkedChains$Chain", name := "bears", desc := "(II)Z" } : Jvm.MethodName) ∈ gtb := gt_of (tm2 233 rfl) rfl
theorem w2_234 : Jvm.Cond.static ({ cls := "MarkedChains$Chain", name := "bears", desc := "(II)Z" } : Jvm.MethodName) ∈ gtb := gt_of (tm2 234 rfl) rfl
theorem w2_235 : Jvm.Cond.code ({ cls := "MarkedChains$Chain", name := "bears", desc := "(II)Z" } : Jvm.MethodName) prog_2_method_6_code (2 : Nat) (Option.some Jvm.ClassFile.FieldType.boolean) ∈ gtb := gt_of (tm2 235 rfl) rfl
theorem w2_236 : Jvm.Cond.methodLink "MarkedChains$Chain" (19 : Nat) ({ cls := "MarkedChains$Chain", name := "bearers", desc := "(I)I" } : Jvm.MethodName) ∈ gtb := gt_of (tm2 236 rfl) rfl
theorem w2_237 : Jvm.Cond.static ({ cls := "MarkedChains$Chain", name := "bearers", desc := "(I)I" } : Jvm.MethodName) ∈ gtb := gt_of (tm2 237 rfl) rfl
theorem w2_238 : Jvm.Cond.code ({ cls := "MarkedChains$Chain", name := "bearers", desc := "(I)I" } : Jvm.MethodName) prog_2_method_5_code (3 : Nat) (Option.some Jvm.ClassFile.FieldType.int) ∈ gtb := gt_of (tm2 238 rfl) rfl
theorem w2_239 : Jvm.Cond.methodLink "MarkedChains$Chain" (15 : Nat) ({ cls := "MarkedChains$Chain", name := "markAt", desc := "(II)I" } : Jvm.MethodName) ∈ gtb := gt_of (tm2 239 rfl) rfl
theorem w3_0 : Jvm.Cond.methodLink "MarkedChains$Tape" (138 : Nat) ({ cls := "MarkedChains$Play", name := "addPlan", desc := "(III)V" } : Jvm.MethodName) ∈ gtb := gt_of (tm3 0 rfl) rfl
theorem w3_1 : Jvm.Cond.instanceMethod ({ cls := "MarkedChains$Play", name := "addPlan", desc := "(III)V" } : Jvm.MethodName) ∈ gtb := gt_of (tm3 1 rfl) rfl
theorem w3_2 : Jvm.Cond.selects "MarkedChains$Play" ({ cls := "MarkedChains$Play", name := "addPlan", desc := "(III)V" } : Jvm.MethodName) ({ cls := "MarkedChains$Play", name := "addPlan", desc := "(III)V" } : Jvm.MethodName) ∈ gtb := gt_of (tm3 2 rfl) rfl
theorem w3_3 : Jvm.Cond.code ({ cls := "MarkedChains$Play", name := "addPlan", desc := "(III)V" } : Jvm.MethodName) prog_3_method_16_code (4 : Nat) (Option.none : Option Jvm.ClassFile.FieldType) ∈ gtb := gt_of (tm3 3 rfl) rfl
theorem w3_4 : Jvm.Cond.methodLink "MarkedChains$Tape" (78 : Nat) ({ cls := "MarkedChains$Tape", name := "readOmit", desc := "()V" } : Jvm.MethodName) ∈ gtb := gt_of (tm3 4 rfl) rfl
theorem w3_6 : Jvm.Cond.instanceMethod ({ cls := "MarkedChains$Tape", name := "readOmit", desc := "()V" } : Jvm.MethodName) ∈ gtb := gt_of (tm3 6 rfl) rfl
theorem w3_7 : Jvm.Cond.code ({ cls := "MarkedChains$Tape", name := "readOmit", desc := "()V" } : Jvm.MethodName) prog_6_method_8_code (2 : Nat) (Option.none : Option Jvm.ClassFile.FieldType) ∈ gtb := gt_of (tm3 7 rfl) rfl
theorem w3_8 : Jvm.Cond.methodLink "MarkedChains$Tape" (145 : Nat) ({ cls := "MarkedChains$Play", name := "isOmitted", desc := "(I)Z" } : Jvm.MethodName) ∈ gtb := gt_of (tm3 8 rfl) rfl
theorem w3_9 : Jvm.Cond.instanceMethod ({ cls := "MarkedChains$Play", name := "isOmitted", desc := "(I)Z" } : Jvm.MethodName) ∈ gtb := gt_of (tm3 9 rfl) rfl
theorem w3_10 : Jvm.Cond.selects "MarkedChains$Play" ({ cls := "MarkedChains$Play", name := "isOmitted", desc := "(I)Z" } : Jvm.MethodName) ({ cls := "MarkedChains$Play", name := "isOmitted", desc := "(I)Z" } : Jvm.MethodName) ∈ gtb := gt_of (tm3 10 rfl) rfl
theorem w3_11 : Jvm.Cond.code ({ cls := "MarkedChains$Play", name := "isOmitted", desc := "(I)Z" } : Jvm.MethodName) prog_3_method_13_code (2 : Nat) (Option.some Jvm.ClassFile.FieldType.boolean) ∈ gtb := gt_of (tm3 11 rfl) rfl
theorem w3_12 : Jvm.Cond.methodLink "MarkedChains$Play" (74 : Nat) ({ cls := "MarkedChains$Play", name := "isAmong", desc := "([III)Z" } : Jvm.MethodName) ∈ gtb := gt_of (tm3 12 rfl) rfl
theorem w3_13 : Jvm.Cond.static ({ cls := "MarkedChains$Play", name := "isAmong", desc := "([III)Z" } : Jvm.MethodName) ∈ gtb := gt_of (tm3 13 rfl) rfl
theorem w3_14 : Jvm.Cond.code ({ cls := "MarkedChains$Play", name := "isAmong", desc := "([III)Z" } : Jvm.MethodName) prog_3_method_15_code (4 : Nat) (Option.some Jvm.ClassFile.FieldType.boolean) ∈ gtb := gt_of (tm3 14 rfl) rfl
theorem w3_15 : Jvm.Cond.methodLink "MarkedChains$Tape" (149 : Nat) ({ cls := "MarkedChains$Play", name := "addOmit", desc := "(I)V" } : Jvm.MethodName) ∈ gtb := gt_of (tm3 15 rfl) rfl
theorem w3_16 : Jvm.Cond.instanceMethod ({ cls := "MarkedChains$Play", name := "addOmit", desc := "(I)V" } : Jvm.MethodName) ∈ gtb := gt_of (tm3 16 rfl) rfl
theorem w3_17 : Jvm.Cond.selects "MarkedChains$Play" ({ cls := "MarkedChains$Play", name := "addOmit", desc := "(I)V" } : Jvm.MethodName) ({ cls := "MarkedChains$Play", name := "addOmit", desc := "(I)V" } : Jvm.MethodName) ∈ gtb := gt_of (tm3 17 rfl) rfl
theorem w3_18 : Jvm.Cond.code ({ cls := "MarkedChains$Play", name := "addOmit", desc := "(I)V" } : Jvm.MethodName) prog_3_method_17_code (2 : Nat) (Option.none : Option Jvm.ClassFile.FieldType) ∈ gtb := gt_of (tm3 18 rfl) rfl
theorem w3_19 : Jvm.Cond.methodLink "MarkedChains$Tape" (81 : Nat) ({ cls := "MarkedChains$Tape", name := "readLate", desc := "()V" } : Jvm.MethodName) ∈ gtb := gt_of (tm3 19 rfl) rfl
theorem w3_21 : Jvm.Cond.instanceMethod ({ cls := "MarkedChains$Tape", name := "readLate", desc := "()V" } : Jvm.MethodName) ∈ gtb := gt_of (tm3 21 rfl) rfl
theorem w3_22 : Jvm.Cond.code ({ cls := "MarkedChains$Tape", name := "readLate", desc := "()V" } : Jvm.MethodName) prog_6_method_9_code (2 : Nat) (Option.none : Option Jvm.ClassFile.FieldType) ∈ gtb := gt_of (tm3 22 rfl) rfl
theorem w3_23 : Jvm.Cond.methodLink "MarkedChains$Tape" (156 : Nat) ({ cls := "MarkedChains$Play", name := "isLate", desc := "(I)Z" } : Jvm.MethodName) ∈ gtb := gt_of (tm3 23 rfl) rfl
theorem w3_24 : Jvm.Cond.instanceMethod ({ cls := "MarkedChains$Play", name := "isLate", desc := "(I)Z" } : Jvm.MethodName) ∈ gtb := gt_of (tm3 24 rfl) rfl
theorem w3_25 : Jvm.Cond.selects "MarkedChains$Play" ({ cls := "MarkedChains$Play", name := "isLate", desc := "(I)Z" } : Jvm.MethodName) ({ cls := "MarkedChains$Play", name := "isLate", desc := "(I)Z" } : Jvm.MethodName) ∈ gtb := gt_of (tm3 25 rfl) rfl
theorem w3_26 : Jvm.Cond.code ({ cls := "MarkedChains$Play", name := "isLate", desc := "(I)Z" } : Jvm.MethodName) prog_3_method_14_code (2 : Nat) (Option.some Jvm.ClassFile.FieldType.boolean) ∈ gtb := gt_of (tm3 26 rfl) rfl
theorem w3_27 : Jvm.Cond.methodLink "MarkedChains$Tape" (159 : Nat) ({ cls := "MarkedChains$Play", name := "addLate", desc := "(II)V" } : Jvm.MethodName) ∈ gtb := gt_of (tm3 27 rfl) rfl
theorem w3_28 : Jvm.Cond.instanceMethod ({ cls := "MarkedChains$Play", name := "addLate", desc := "(II)V" } : Jvm.MethodName) ∈ gtb := gt_of (tm3 28 rfl) rfl
theorem w3_29 : Jvm.Cond.selects "MarkedChains$Play" ({ cls := "MarkedChains$Play", name := "addLate", desc := "(II)V" } : Jvm.MethodName) ({ cls := "MarkedChains$Play", name := "addLate", desc := "(II)V" } : Jvm.MethodName) ∈ gtb := gt_of (tm3 29 rfl) rfl
theorem w3_30 : Jvm.Cond.code ({ cls := "MarkedChains$Play", name := "addLate", desc := "(II)V" } : Jvm.MethodName) prog_3_method_18_code (3 : Nat) (Option.none : Option Jvm.ClassFile.FieldType) ∈ gtb := gt_of (tm3 30 rfl) rfl
theorem w3_31 : Jvm.Cond.methodLink "MarkedChains$Tape" (88 : Nat) ({ cls := "MarkedChains$Play", name := "leastSetting", desc := "(I)I" } : Jvm.MethodName) ∈ gtb := gt_of (tm3 31 rfl) rfl
theorem w3_32 : Jvm.Cond.instanceMethod ({ cls := "MarkedChains$Play", name := "leastSetting", desc := "(I)I" } : Jvm.MethodName) ∈ gtb := gt_of (tm3 32 rfl) rfl
theorem w3_33 : Jvm.Cond.selects "MarkedChains$Play" ({ cls := "MarkedChains$Play", name := "leastSetting", desc := "(I)I" } : Jvm.MethodName) ({ cls := "MarkedChains$Play", name := "leastSetting", desc := "(I)I" } : Jvm.MethodName) ∈ gtb := gt_of (tm3 33 rfl) rfl
theorem w3_34 : Jvm.Cond.code ({ cls := "MarkedChains$Play", name := "leastSetting", desc := "(I)I" } : Jvm.MethodName) prog_3_method_9_code (2 : Nat) (Option.some Jvm.ClassFile.FieldType.int) ∈ gtb := gt_of (tm3 34 rfl) rfl
theorem w3_35 : Jvm.Cond.methodLink "MarkedChains$Tape" (92 : Nat) ({ cls := "MarkedChains$Play", name := "mostSetting", desc := "(I)I" } : Jvm.MethodName) ∈ gtb := gt_of (tm3 35 rfl) rfl
theorem w3_36 : Jvm.Cond.instanceMethod ({ cls := "MarkedChains$Play", name := "mostSetting", desc := "(I)I" } : Jvm.MethodName) ∈ gtb := gt_of (tm3 36 rfl) rfl
theorem w3_37 : Jvm.Cond.selects "MarkedChains$Play" ({ cls := "MarkedChains$Play", name := "mostSetting", desc := "(I)I" } : Jvm.MethodName) ({ cls := "MarkedChains$Play", name := "mostSetting", desc := "(I)I" } : Jvm.MethodName) ∈ gtb := gt_of (tm3 37 rfl) rfl
theorem w3_38 : Jvm.Cond.code ({ cls := "MarkedChains$Play", name := "mostSetting", desc := "(I)I" } : Jvm.MethodName) prog_3_method_10_code (2 : Nat) (Option.some Jvm.ClassFile.FieldType.int) ∈ gtb := gt_of (tm3 38 rfl) rfl
theorem w3_39 : Jvm.Cond.methodLink "MarkedChains" (68 : Nat) ({ cls := "MarkedChains$Play", name := "become", desc := "(LMarkedChains$Play;)V" } : Jvm.MethodName) ∈ gtb := gt_of (tm3 39 rfl) rfl
theorem w3_40 : Jvm.Cond.instanceMethod ({ cls := "MarkedChains$Play", name := "become", desc := "(LMarkedChains$Play;)V" } : Jvm.MethodName) ∈ gtb := gt_of (tm3 40 rfl) rfl
theorem w3_41 : Jvm.Cond.selects "MarkedChains$Play" ({ cls := "MarkedChains$Play", name := "become", desc := "(LMarkedChains$Play;)V" } : Jvm.MethodName) ({ cls := "MarkedChains$Play", name := "become", desc := "(LMarkedChains$Play;)V" } : Jvm.MethodName) ∈ gtb := gt_of (tm3 41 rfl) rfl
theorem w3_42 : Jvm.Cond.code ({ cls := "MarkedChains$Play", name := "become", desc := "(LMarkedChains$Play;)V" } : Jvm.MethodName) prog_3_method_3_code (2 : Nat) (Option.none : Option Jvm.ClassFile.FieldType) ∈ gtb := gt_of (tm3 42 rfl) rfl
theorem w3_43 : Jvm.Cond.methodLink "MarkedChains$Play" (52 : Nat) ({ cls := "java/lang/System", name := "arraycopy", desc := "(Ljava/lang/Object;ILjava/lang/Object;II)V" } : Jvm.MethodName) ∈ gtb := gt_of (tm3 43 rfl) rfl
theorem w3_44 : Jvm.Cond.arrayClass Jvm.ClassFile.FieldType.byte ∈ gtb := gt_of (tm3 44 rfl) rfl
theorem w3_45 : Jvm.Cond.methodLink "MarkedChainsLaw" (28 : Nat) ({ cls := "MarkedChains", name := "settle", desc := "(II)I" } : Jvm.MethodName) ∈ gtb := gt_of (tm3 45 rfl) rfl
theorem w3_46 : Jvm.Cond.instanceMethod ({ cls := "MarkedChains", name := "settle", desc := "(II)I" } : Jvm.MethodName) ∈ gtb := gt_of (tm3 46 rfl) rfl
theorem w3_47 : Jvm.Cond.selects "MarkedChains" ({ cls := "MarkedChains", name := "settle", desc := "(II)I" } : Jvm.MethodName) ({ cls := "MarkedChains", name := "settle", desc := "(II)I" } : Jvm.MethodName) ∈ gtb := gt_of (tm3 47 rfl) rfl
theorem w3_48 : Jvm.Cond.code ({ cls := "MarkedChains", name := "settle", desc := "(II)I" } : Jvm.MethodName) prog_1_method_5_code (4 : Nat) (Option.some Jvm.ClassFile.FieldType.int) ∈ gtb := gt_of (tm3 48 rfl) rfl
theorem w3_49 : Jvm.Cond.methodLink "MarkedChains" (74 : Nat) ({ cls := "MarkedChains$Play", name := "hasSetting", desc := "(II)Z" } : Jvm.MethodName) ∈ gtb := gt_of (tm3 49 rfl) rfl
theorem w3_50 : Jvm.Cond.instanceMethod ({ cls := "MarkedChains$Play", name := "hasSetting", desc := "(II)Z" } : Jvm.MethodName) ∈ gtb := gt_of (tm3 50 rfl) rfl
theorem w3_51 : Jvm.Cond.selects "MarkedChains$Play" ({ cls := "MarkedChains$Play", name := "hasSetting", desc := "(II)Z" } : Jvm.MethodName) ({ cls := "MarkedChains$Play", name := "hasSetting", desc := "(II)Z" } : Jvm.MethodName) ∈ gtb := gt_of (tm3 51 rfl) rfl
theorem w3_52 : Jvm.Cond.code ({ cls := "MarkedChains$Play", name := "hasSetting", desc := "(II)Z" } : Jvm.MethodName) prog_3_method_8_code (3 : Nat) (Option.some Jvm.ClassFile.FieldType.boolean) ∈ gtb := gt_of (tm3 52 rfl) rfl
theorem w3_53 : Jvm.Cond.methodLink "MarkedChains$Play" (62 : Nat) ({ cls := "MarkedChains$Play", name := "leastSetting", desc := "(I)I" } : Jvm.MethodName) ∈ gtb := gt_of (tm3 53 rfl) rfl
theorem w3_54 : Jvm.Cond.methodLink "MarkedChains$Play" (66 : Nat) ({ cls := "MarkedChains$Play", name := "mostSetting", desc := "(I)I" } : Jvm.MethodName) ∈ gtb := gt_of (tm3 54 rfl) rfl
theorem w3_55 : Jvm.Cond.methodLink "MarkedChains" (82 : Nat) ({ cls := "MarkedChains", name := "remember", desc := "()V" } : Jvm.MethodName) ∈ gtb := gt_of (tm3 55 rfl) rfl
theorem w3_57 : Jvm.Cond.instanceMethod ({ cls := "MarkedChains", name := "remember", desc := "()V" } : Jvm.MethodName) ∈ gtb := gt_of (tm3 57 rfl) rfl
theorem w3_58 : Jvm.Cond.code ({ cls := "MarkedChains", name := "remember", desc := "()V" } : Jvm.MethodName) prog_1_method_47_code (1 : Nat) (Option.none : Option Jvm.ClassFile.FieldType) ∈ gtb := gt_of (tm3 58 rfl) rfl
theorem w3_59 : Jvm.Cond.methodLink "MarkedChains" (343 : Nat) ({ cls := "MarkedChains", name := "forgetOldest", desc := "()V" } : Jvm.MethodName) ∈ gtb := gt_of (tm3 59 rfl) rfl
theorem w3_61 : Jvm.Cond.instanceMethod ({ cls := "MarkedChains", name := "forgetOldest", desc := "()V" } : Jvm.MethodName) ∈ gtb := gt_of (tm3 61 rfl) rfl
theorem w3_62 : Jvm.Cond.code ({ cls := "MarkedChains", name := "forgetOldest", desc := "()V" } : Jvm.MethodName) prog_1_method_48_code (3 : Nat) (Option.none : Option Jvm.ClassFile.FieldType) ∈ gtb := gt_of (tm3 62 rfl) rfl
theorem w3_63 : Jvm.Cond.methodLink "MarkedChainsLaw" (33 : Nat) ({ cls := "MarkedChains", name := "lies", desc := "(I)I" } : Jvm.MethodName) ∈ gtb := gt_of (tm3 63 rfl) rfl
theorem w3_64 : Jvm.Cond.instanceMethod ({ cls := "MarkedChains", name := "lies", desc := "(I)I" } : Jvm.MethodName) ∈ gtb := gt_of (tm3 64 rfl) rfl
theorem w3_65 : Jvm.Cond.selects "MarkedChains" ({ cls := "MarkedChains", name := "lies", desc := "(I)I" } : Jvm.MethodName) ({ cls := "MarkedChains", name := "lies", desc := "(I)I" } : Jvm.MethodName) ∈ gtb := gt_of (tm3 65 rfl) rfl
theorem w3_66 : Jvm.Cond.code ({ cls := "MarkedChains", name := "lies", desc := "(I)I" } : Jvm.MethodName) prog_1_method_6_code (2 : Nat) (Option.some Jvm.ClassFile.FieldType.int) ∈ gtb := gt_of (tm3 66 rfl) rfl
theorem w3_67 : Jvm.Cond.methodLink "MarkedChains" (85 : Nat) ({ cls := "MarkedChains$Play", name := "hasParty", desc := "(I)Z" } : Jvm.MethodName) ∈ gtb := gt_of (tm3 67 rfl) rfl
theorem w3_68 : Jvm.Cond.methodLink "MarkedChainsLaw" (37 : Nat) ({ cls := "MarkedChains", name := "plan", desc := "(IIIII)I" } : Jvm.MethodName) ∈ gtb := gt_of (tm3 68 rfl) rfl
theorem w3_69 : Jvm.Cond.instanceMethod ({ cls := "MarkedChains", name := "plan", desc := "(IIIII)I" } : Jvm.MethodName) ∈ gtb := gt_of (tm3 69 rfl) rfl
theorem w3_70 : Jvm.Cond.selects "MarkedChains" ({ cls := "MarkedChains", name := "plan", desc := "(IIIII)I" } : Jvm.MethodName) ({ cls := "MarkedChains", name := "plan", desc := "(IIIII)I" } : Jvm.MethodName) ∈ gtb := gt_of (tm3 70 rfl) rfl
theorem w3_71 : Jvm.Cond.code ({ cls := "MarkedChains", name := "plan", desc := "(IIIII)I" } : Jvm.MethodName) prog_1_method_7_code (7 : Nat) (Option.some Jvm.ClassFile.FieldType.int) ∈ gtb := gt_of (tm3 71 rfl) rfl
theorem w3_72 : Jvm.Cond.methodLink "MarkedChains" (92 : Nat) ({ cls := "MarkedChains$Chain", name := "ofDigits", desc := "(I)I" } : Jvm.MethodName) ∈ gtb := gt_of (tm3 72 rfl) rfl
theorem w3_73 : Jvm.Cond.static ({ cls := "MarkedChains$Chain", name := "ofDigits", desc := "(I)I" } : Jvm.MethodName) ∈ gtb := gt_of (tm3 73 rfl) rfl
theorem w3_74 : Jvm.Cond.code ({ cls := "MarkedChains$Chain", name := "ofDigits", desc := "(I)I" } : Jvm.MethodName) prog_2_method_9_code (5 : Nat) (Option.some Jvm.ClassFile.FieldType.int) ∈ gtb := gt_of (tm3 74 rfl) rfl
theorem w3_75 : Jvm.Cond.constant "MarkedChains$Chain" (29 : Nat) (10000000 : Int32) ∈ gtb := gt_of (tm3 75 rfl) rfl
theorem w3_76 : Jvm.Cond.methodLink "MarkedChains$Chain" (30 : Nat) ({ cls := "MarkedChains$Chain", name := "bears", desc := "(II)Z" } : Jvm.MethodName) ∈ gtb := gt_of (tm3 76 rfl) rfl
theorem w3_77 : Jvm.Cond.methodLink "MarkedChains$Chain" (26 : Nat) ({ cls := "MarkedChains$Chain", name := "with", desc := "(II)I" } : Jvm.MethodName) ∈ gtb := gt_of (tm3 77 rfl) rfl
theorem w3_78 : Jvm.Cond.methodLink "MarkedChains" (98 : Nat) ({ cls := "MarkedChains$Play", name := "hasRoute", desc := "(III)Z" } : Jvm.MethodName) ∈ gtb := gt_of (tm3 78 rfl) rfl
theorem w3_79 : Jvm.Cond.instanceMethod ({ cls := "MarkedChains$Play", name := "hasRoute", desc := "(III)Z" } : Jvm.MethodName) ∈ gtb := gt_of (tm3 79 rfl) rfl
theorem w3_80 : Jvm.Cond.selects "MarkedChains$Play" ({ cls := "MarkedChains$Play", name := "hasRoute", desc := "(III)Z" } : Jvm.MethodName) ({ cls := "MarkedChains$Play", name := "hasRoute", desc := "(III)Z" } : Jvm.MethodName) ∈ gtb := gt_of (tm3 80 rfl) rfl
theorem w3_81 : Jvm.Cond.code ({ cls := "MarkedChains$Play", name := "hasRoute", desc := "(III)Z" } : Jvm.MethodName) prog_3_method_11_code (4 : Nat) (Option.some Jvm.ClassFile.FieldType.boolean) ∈ gtb := gt_of (tm3 81 rfl) rfl
theorem w3_82 : Jvm.Cond.methodLink "MarkedChains" (102 : Nat) ({ cls := "MarkedChains", name := "isValue", desc := "(I)Z" } : Jvm.MethodName) ∈ gtb := gt_of (tm3 82 rfl) rfl
theorem w3_83 : Jvm.Cond.static ({ cls := "MarkedChains", name := "isValue", desc := "(I)Z" } : Jvm.MethodName) ∈ gtb := gt_of (tm3 83 rfl) rfl
theorem w3_84 : Jvm.Cond.code ({ cls := "MarkedChains", name := "isValue", desc := "(I)Z" } : Jvm.MethodName) prog_1_method_53_code (1 : Nat) (Option.some Jvm.ClassFile.FieldType.boolean) ∈ gtb := gt_of (tm3 84 rfl) rfl
theorem w3_85 : Jvm.Cond.methodLink "MarkedChains" (105 : Nat) ({ cls := "MarkedChains$Play", name := "hasMarks", desc := "(I)Z" } : Jvm.MethodName) ∈ gtb := gt_of (tm3 85 rfl) rfl
theorem w3_86 : Jvm.Cond.instanceMethod ({ cls := "MarkedChains$Play", name := "hasMarks", desc := "(I)Z" } : Jvm.MethodName) ∈ gtb := gt_of (tm3 86 rfl) rfl
theorem w3_87 : Jvm.Cond.selects "MarkedChains$Play" ({ cls := "MarkedChains$Play", name := "hasMarks", desc := "(I)Z" } : Jvm.MethodName) ({ cls := "MarkedChains$Play", name := "hasMarks", desc := "(I)Z" } : Jvm.MethodName) ∈ gtb := gt_of (tm3 87 rfl) rfl
theorem w3_88 : Jvm.Cond.code ({ cls := "MarkedChains$Play", name := "hasMarks", desc := "(I)Z" } : Jvm.MethodName) prog_3_method_12_code (2 : Nat) (Option.some Jvm.ClassFile.FieldType.boolean) ∈ gtb := gt_of (tm3 88 rfl) rfl
theorem w3_89 : Jvm.Cond.methodLink "MarkedChains$Play" (69 : Nat) ({ cls := "MarkedChains$Chain", name := "bearers", desc := "(I)I" } : Jvm.MethodName) ∈ gtb := gt_of (tm3 89 rfl) rfl
theorem w3_90 : Jvm.Cond.methodLink "MarkedChains" (111 : Nat) ({ cls := "MarkedChains$Route", name := "of", desc := "(III)I" } : Jvm.MethodName) ∈ gtb := gt_of (tm3 90 rfl) rfl
theorem w3_91 : Jvm.Cond.methodLink "MarkedChains" (117 : Nat) ({ cls := "MarkedChains$Play", name := "addPlan", desc := "(III)V" } : Jvm.MethodName) ∈ gtb := gt_of (tm3 91 rfl) rfl
theorem w3_92 : Jvm.Cond.methodLink "MarkedChainsLaw" (41 : Nat) ({ cls := "MarkedChains", name := "drop", desc := "(II)I" } : Jvm.MethodName) ∈ gtb := gt_of (tm3 92 rfl) rfl
theorem w3_93 : Jvm.Cond.instanceMethod ({ cls := "MarkedChains", name := "drop", desc := "(II)I" } : Jvm.MethodName) ∈ gtb := gt_of (tm3 93 rfl) rfl
theorem w3_94 : Jvm.Cond.selects "MarkedChains" ({ cls := "MarkedChains", name := "drop", desc := "(II)I" } : Jvm.MethodName) ({ cls := "MarkedChains", name := "drop", desc := "(II)I" } : Jvm.MethodName) ∈ gtb := gt_of (tm3 94 rfl) rfl
theorem w3_95 : Jvm.Cond.code ({ cls := "MarkedChains", name := "drop", desc := "(II)I" } : Jvm.MethodName) prog_1_method_8_code (3 : Nat) (Option.some Jvm.ClassFile.FieldType.int) ∈ gtb := gt_of (tm3 95 rfl) rfl
theorem w3_96 : Jvm.Cond.methodLink "MarkedChains" (121 : Nat) ({ cls := "MarkedChains$Play", name := "sizeOf", desc := "(I)I" } : Jvm.MethodName) ∈ gtb := gt_of (tm3 96 rfl) rfl
theorem w3_97 : Jvm.Cond.instanceMethod ({ cls := "MarkedChains$Play", name := "sizeOf", desc := "(I)I" } : Jvm.MethodName) ∈ gtb := gt_of (tm3 97 rfl) rfl
theorem w3_98 : Jvm.Cond.selects "MarkedChains$Play" ({ cls := "MarkedChains$Play", name := "sizeOf", desc := "(I)I" } : Jvm.MethodName) ({ cls := "MarkedChains$Play", name := "sizeOf", desc := "(I)I" } : Jvm.MethodName) ∈ gtb := gt_of (tm3 98 rfl) rfl
theorem w3_99 : Jvm.Cond.code ({ cls := "MarkedChains$Play", name := "sizeOf", desc := "(I)I" } : Jvm.MethodName) prog_3_method_19_code (2 : Nat) (Option.some Jvm.ClassFile.FieldType.int) ∈ gtb := gt_of (tm3 99 rfl) rfl
theorem w3_100 : Jvm.Cond.methodLink "MarkedChains" (124 : Nat) ({ cls := "MarkedChains$Play", name := "remove", desc := "(II)V" } : Jvm.MethodName) ∈ gtb := gt_of (tm3 100 rfl) rfl
theorem w3_101 : Jvm.Cond.instanceMethod ({ cls := "MarkedChains$Play", name := "remove", desc := "(II)V" } : Jvm.MethodName) ∈ gtb := gt_of (tm3 101 rfl) rfl
theorem w3_102 : Jvm.Cond.selects "MarkedChains$Play" ({ cls := "MarkedChains$Play", name := "remove", desc := "(II)V" } : Jvm.MethodName) ({ cls := "MarkedChains$Play", name := "remove", desc := "(II)V" } : Jvm.MethodName) ∈ gtb := gt_of (tm3 102 rfl) rfl
theorem w3_103 : Jvm.Cond.code ({ cls := "MarkedChains$Play", name := "remove", desc := "(II)V" } : Jvm.MethodName) prog_3_method_20_code (3 : Nat) (Option.none : Option Jvm.ClassFile.FieldType) ∈ gtb := gt_of (tm3 103 rfl) rfl
theorem w3_104 : Jvm.Cond.methodLink "MarkedChains$Play" (78 : Nat) ({ cls := "MarkedChains$Play", name := "closeGap", desc := "([II)V" } : Jvm.MethodName) ∈ gtb := gt_of (tm3 104 rfl) rfl
theorem w3_105 : Jvm.Cond.static ({ cls := "MarkedChains$Play", name := "closeGap", desc := "([II)V" } : Jvm.MethodName) ∈ gtb := gt_of (tm3 105 rfl) rfl
theorem w3_106 : Jvm.Cond.code ({ cls := "MarkedChains$Play", name := "closeGap", desc := "([II)V" } : Jvm.MethodName) prog_3_method_21_code (3 : Nat) (Option.none : Option Jvm.ClassFile.FieldType) ∈ gtb := gt_of (tm3 106 rfl) rfl
theorem w3_107 : Jvm.Cond.methodLink "MarkedChains$Play" (82 : Nat) ({ cls := "java/lang/Math", name := "max", desc := "(II)I" } : Jvm.MethodName) ∈ gtb := gt_of (tm3 107 rfl) rfl
theorem w3_108 : Jvm.Cond.static ({ cls := "java/lang/Math", name := "max", desc := "(II)I" } : Jvm.MethodName) ∈ gtb := gt_of (tm3 108 rfl) rfl
theorem w3_109 : Jvm.Cond.code ({ cls := "java/lang/Math", name := "max", desc := "(II)I" } : Jvm.MethodName) prog_10_method_65_code (2 : Nat) (Option.some Jvm.ClassFile.FieldType.int) ∈ gtb := gt_of (tm3 109 rfl) rfl
theorem w3_110 : Jvm.Cond.methodLink "MarkedChainsLaw" (45 : Nat) ({ cls := "MarkedChains", name := "omit", desc := "(III)I" } : Jvm.MethodName) ∈ gtb := gt_of (tm3 110 rfl) rfl
theorem w3_111 : Jvm.Cond.instanceMethod ({ cls := "MarkedChains", name := "omit", desc := "(III)I" } : Jvm.MethodName) ∈ gtb := gt_of (tm3 111 rfl) rfl
theorem w3_112 : Jvm.Cond.selects "MarkedChains" ({ cls := "MarkedChains", name := "omit", desc := "(III)I" } : Jvm.MethodName) ({ cls := "MarkedChains", name := "omit", desc := "(III)I" } : Jvm.MethodName) ∈ gtb := gt_of (tm3 112 rfl) rfl
theorem w3_113 : Jvm.Cond.code ({ cls := "MarkedChains", name := "omit", desc := "(III)I" } : Jvm.MethodName) prog_1_method_9_code (5 : Nat) (Option.some Jvm.ClassFile.FieldType.int) ∈ gtb := gt_of (tm3 113 rfl) rfl
theorem w3_114 : Jvm.Cond.methodLink "MarkedChains" (128 : Nat) ({ cls := "MarkedChains$Play", name := "isOmitted", desc := "(I)Z" } : Jvm.MethodName) ∈ gtb := gt_of (tm3 114 rfl) rfl
theorem w3_115 : Jvm.Cond.methodLink "MarkedChains" (134 : Nat) ({ cls := "MarkedChains$Play", name := "addOmit", desc := "(I)V" } : Jvm.MethodName) ∈ gtb := gt_of (tm3 115 rfl) rfl
theorem w3_116 : Jvm.Cond.methodLink "MarkedChainsLaw" (50 : Nat) ({ cls := "MarkedChains", name := "late", desc := "(IIII)I" } : Jvm.MethodName) ∈ gtb := gt_of (tm3 116 rfl) rfl
theorem w3_117 : Jvm.Cond.instanceMethod ({ cls := "MarkedChains", name := "late", desc := "(IIII)I" } : Jvm.MethodName) ∈ gtb := gt_of (tm3 117 rfl) rfl
theorem w3_118 : Jvm.Cond.selects "MarkedChains" ({ cls := "MarkedChains", name := "late", desc := "(IIII)I" } : Jvm.MethodName) ({ cls := "MarkedChains", name := "late", desc := "(IIII)I" } : Jvm.MethodName) ∈ gtb := gt_of (tm3 118 rfl) rfl
theorem w3_119 : Jvm.Cond.code ({ cls := "MarkedChains", name := "late", desc := "(IIII)I" } : Jvm.MethodName) prog_1_method_10_code (6 : Nat) (Option.some Jvm.ClassFile.FieldType.int) ∈ gtb := gt_of (tm3 119 rfl) rfl
theorem w3_120 : Jvm.Cond.methodLink "MarkedChains" (137 : Nat) ({ cls := "MarkedChains$Play", name := "isLate", desc := "(I)Z" } : Jvm.MethodName) ∈ gtb := gt_of (tm3 120 rfl) rfl
theorem w3_121 : Jvm.Cond.methodLink "MarkedChains" (143 : Nat) ({ cls := "MarkedChains$Play", name := "addLate", desc := "(II)V" } : Jvm.MethodName) ∈ gtb := gt_of (tm3 121 rfl) rfl
theorem w3_122 : Jvm.Cond.methodLink "MarkedChainsLaw" (55 : Nat) ({ cls := "MarkedChains", name := "attack", desc := "()I" } : Jvm.MethodName) ∈ gtb := gt_of (tm3 122 rfl) rfl
theorem w3_123 : Jvm.Cond.instanceMethod ({ cls := "MarkedChains", name := "attack", desc := "()I" } : Jvm.MethodName) ∈ gtb := gt_of (tm3 123 rfl) rfl
theorem w3_124 : Jvm.Cond.selects "MarkedChains" ({ cls := "MarkedChains", name := "attack", desc := "()I" } : Jvm.MethodName) ({ cls := "MarkedChains", name := "attack", desc := "()I" } : Jvm.MethodName) ∈ gtb := gt_of (tm3 124 rfl) rfl
theorem w3_125 : Jvm.Cond.code ({ cls := "MarkedChains", name := "attack", desc := "()I" } : Jvm.MethodName) prog_1_method_11_code (6 : Nat) (Option.some Jvm.ClassFile.FieldType.int) ∈ gtb := gt_of (tm3 125 rfl) rfl
theorem w3_126 : Jvm.Cond.methodLink "MarkedChains" (146 : Nat) ({ cls := "java/lang/Integer", name := "bitCount", desc := "(I)I" } : Jvm.MethodName) ∈ gtb := gt_of (tm3 126 rfl) rfl
theorem w3_127 : Jvm.Cond.static ({ cls := "java/lang/Integer", name := "bitCount", desc := "(I)I" } : Jvm.MethodName) ∈ gtb := gt_of (tm3 127 rfl) rfl
theorem w3_128 : Jvm.Cond.code ({ cls := "java/lang/Integer", name := "bitCount", desc := "(I)I" } : Jvm.MethodName) prog_9_method_49_code (1 : Nat) (Option.some Jvm.ClassFile.FieldType.int) ∈ gtb := gt_of (tm3 128 rfl) rfl
theorem w3_129 : Jvm.Cond.constant "java/lang/Integer" (265 : Nat) (1431655765 : Int32) ∈ gtb := gt_of (tm3 129 rfl) rfl
theorem w3_130 : Jvm.Cond.constant "java/lang/Integer" (266 : Nat) (858993459 : Int32) ∈ gtb := gt_of (tm3 130 rfl) rfl
theorem w3_131 : Jvm.Cond.constant "java/lang/Integer" (267 : Nat) (252645135 : Int32) ∈ gtb := gt_of (tm3 131 rfl) rfl
theorem w3_132 : Jvm.Cond.methodLink "MarkedChains" (151 : Nat) ({ cls := "MarkedChains$Play", name := "honest", desc := "()I" } : Jvm.MethodName) ∈ gtb := gt_of (tm3 132 rfl) rfl
theorem w3_133 : Jvm.Cond.instanceMethod ({ cls := "MarkedChains$Play", name := "honest", desc := "()I" } : Jvm.MethodName) ∈ gtb := gt_of (tm3 133 rfl) rfl
theorem w3_134 : Jvm.Cond.selects "MarkedChains$Play" ({ cls := "MarkedChains$Play", name := "honest", desc := "()I" } : Jvm.MethodName) ({ cls := "MarkedChains$Play", name := "honest", desc := "()I" } : Jvm.MethodName) ∈ gtb := gt_of (tm3 134 rfl) rfl
theorem w3_135 : Jvm.Cond.code ({ cls := "MarkedChains$Play", name := "honest", desc := "()I" } : Jvm.MethodName) prog_3_method_7_code (1 : Nat) (Option.some Jvm.ClassFile.FieldType.int) ∈ gtb := gt_of (tm3 135 rfl) rfl
theorem w3_136 : Jvm.Cond.methodLink "MarkedChains" (155 : Nat) ({ cls := "MarkedChains$Play", name := "isLiar", desc := "(I)Z" } : Jvm.MethodName) ∈ gtb := gt_of (tm3 136 rfl) rfl
theorem w3_137 : Jvm.Cond.methodLink "MarkedChains" (158 : Nat) ({ cls := "MarkedChains$Play", name := "liarsChain", desc := "(I)I" } : Jvm.MethodName) ∈ gtb := gt_of (tm3 137 rfl) rfl
theorem w3_138 : Jvm.Cond.instanceMethod ({ cls := "MarkedChains$Play", name := "liarsChain", desc := "(I)I" } : Jvm.MethodName) ∈ gtb := gt_of (tm3 138 rfl) rfl
theorem w3_139 : Jvm.Cond.selects "MarkedChains$Play" ({ cls := "MarkedChains$Play", name := "liarsChain", desc := "(I)I" } : Jvm.MethodName) ({ cls := "MarkedChains$Play", name := "liarsChain", desc := "(I)I" } : Jvm.MethodName) ∈ gtb := gt_of (tm3 139 rfl) rfl
theorem w3_140 : Jvm.Cond.code ({ cls := "MarkedChains$Play", name := "liarsChain", desc := "(I)I" } : Jvm.MethodName) prog_3_method_23_code (5 : Nat) (Option.some Jvm.ClassFile.FieldType.int) ∈ gtb := gt_of (tm3 140 rfl) rfl
theorem w3_141 : Jvm.Cond.methodLink "MarkedChains$Play" (98 : Nat) ({ cls := "MarkedChains$Chain", name := "with", desc := "(II)I" } : Jvm.MethodName) ∈ gtb := gt_of (tm3 141 rfl) rfl
theorem w3_142 : Jvm.Cond.methodLink "MarkedChains$Play" (101 : Nat) ({ cls := "MarkedChains$Play", name := "isLiar", desc := "(I)Z" } : Jvm.MethodName) ∈ gtb := gt_of (tm3 142 rfl) rfl
theorem w3_143 : Jvm.Cond.methodLink "MarkedChains$Play" (104 : Nat) ({ cls := "MarkedChains$Chain", name := "size", desc := "(I)I" } : Jvm.MethodName) ∈ gtb := gt_of (tm3 143 rfl) rfl
theorem w3_144 : Jvm.Cond.methodLink "MarkedChains" (161 : Nat) ({ cls := "MarkedChains$Chain", name := "markAt", desc := "(II)I" } : Jvm.MethodName) ∈ gtb := gt_of (tm3 144 rfl) rfl
theorem w3_145 : Jvm.Cond.methodLink "MarkedChains" (165 : Nat) ({ cls := "MarkedChains", name := "leastOf", desc := "(I)I" } : Jvm.MethodName) ∈ gtb := gt_of (tm3 145 rfl) rfl
theorem w3_146 : Jvm.Cond.static ({ cls := "MarkedChains", name := "leastOf", desc := "(I)I" } : Jvm.MethodName) ∈ gtb := gt_of (tm3 146 rfl) rfl
theorem w3_147 : Jvm.Cond.code ({ cls := "MarkedChains", name := "leastOf", desc := "(I)I" } : Jvm.MethodName) prog_1_method_55_code (2 : Nat) (Option.some Jvm.ClassFile.FieldType.int) ∈ gtb := gt_of (tm3 147 rfl) rfl
theorem w3_148 : Jvm.Cond.methodLink "MarkedChains" (168 : Nat) ({ cls := "MarkedChains$Chain", name := "size", desc := "(I)I" } : Jvm.MethodName) ∈ gtb := gt_of (tm3 148 rfl) rfl
theorem w3_149 : Jvm.Cond.methodLink "MarkedChainsLaw" (59 : Nat) ({ cls := "MarkedChains", name := "trade", desc := "(II)I" } : Jvm.MethodName) ∈ gtb := gt_of (tm3 149 rfl) rfl
theorem w3_150 : Jvm.Cond.instanceMethod ({ cls := "MarkedChains", name := "trade", desc := "(II)I" } : Jvm.MethodName) ∈ gtb := gt_of (tm3 150 rfl) rfl
theorem w3_151 : Jvm.Cond.selects "MarkedChains" ({ cls := "MarkedChains", name := "trade", desc := "(II)I" } : Jvm.MethodName) ({ cls := "MarkedChains", name := "trade", desc := "(II)I" } : Jvm.MethodName) ∈ gtb := gt_of (tm3 151 rfl) rfl
theorem w3_152 : Jvm.Cond.code ({ cls := "MarkedChains", name := "trade", desc := "(II)I" } : Jvm.MethodName) prog_1_method_12_code (3 : Nat) (Option.some Jvm.ClassFile.FieldType.int) ∈ gtb := gt_of (tm3 152 rfl) rfl
theorem w3_153 : Jvm.Cond.methodLink "MarkedChains" (171 : Nat) ({ cls := "MarkedChains$Play", name := "swap", desc := "(II)V" } : Jvm.MethodName) ∈ gtb := gt_of (tm3 153 rfl) rfl
theorem w3_154 : Jvm.Cond.instanceMethod ({ cls := "MarkedChains$Play", name := "swap", desc := "(II)V" } : Jvm.MethodName) ∈ gtb := gt_of (tm3 154 rfl) rfl
theorem w3_155 : Jvm.Cond.selects "MarkedChains$Play" ({ cls := "MarkedChains$Play", name := "swap", desc := "(II)V" } : Jvm.MethodName) ({ cls := "MarkedChains$Play", name := "swap", desc := "(II)V" } : Jvm.MethodName) ∈ gtb := gt_of (tm3 155 rfl) rfl
theorem w3_156 : Jvm.Cond.code ({ cls := "MarkedChains$Play", name := "swap", desc := "(II)V" } : Jvm.MethodName) prog_3_method_22_code (5 : Nat) (Option.none : Option Jvm.ClassFile.FieldType) ∈ gtb := gt_of (tm3 156 rfl) rfl
theorem w3_158 : Jvm.Cond.static ({ cls := "MarkedChains", name := "swapped", desc := "(III)I" } : Jvm.MethodName) ∈ gtb := gt_of (tm3 158 rfl) rfl
theorem w3_159 : Jvm.Cond.code ({ cls := "MarkedChains", name := "swapped", desc := "(III)I" } : Jvm.MethodName) prog_1_method_56_code (3 : Nat) (Option.some Jvm.ClassFile.FieldType.int) ∈ gtb := gt_of (tm3 159 rfl) rfl
theorem w3_160 : Jvm.Cond.methodLink "MarkedChains$Play" (92 : Nat) ({ cls := "MarkedChains$Route", name := "traded", desc := "(III)I" } : Jvm.MethodName) ∈ gtb := gt_of (tm3 160 rfl) rfl
theorem w3_161 : Jvm.Cond.static ({ cls := "MarkedChains$Route", name := "traded", desc := "(III)I" } : Jvm.MethodName) ∈ gtb := gt_of (tm3 161 rfl) rfl
theorem w3_162 : Jvm.Cond.code ({ cls := "MarkedChains$Route", name := "traded", desc := "(III)I" } : Jvm.MethodName) prog_4_method_6_code (3 : Nat) (Option.some Jvm.ClassFile.FieldType.int) ∈ gtb := gt_of (tm3 162 rfl) rfl
theorem w3_163 : Jvm.Cond.methodLink "MarkedChains$Route" (9 : Nat) ({ cls := "MarkedChains$Route", name := "roundOf", desc := "(I)I" } : Jvm.MethodName) ∈ gtb := gt_of (tm3 163 rfl) rfl
theorem w3_164 : Jvm.Cond.methodLink "MarkedChains$Route" (15 : Nat) ({ cls := "MarkedChains$Route", name := "fromOf", desc := "(I)I" } : Jvm.MethodName) ∈ gtb := gt_of (tm3 164 rfl) rfl
theorem w3_166 : Jvm.Cond.methodLink "MarkedChains$Route" (22 : Nat) ({ cls := "MarkedChains$Route", name := "toOf", desc := "(I)I" } : Jvm.MethodName) ∈ gtb := gt_of (tm3 166 rfl) rfl
theorem w3_167 : Jvm.Cond.methodLink "MarkedChains$Route" (25 : Nat) ({ cls := "MarkedChains$Route", name := "of", desc := "(III)I" } : Jvm.MethodName) ∈ gtb := gt_of (tm3 167 rfl) rfl
theorem w3_168 : Jvm.Cond.methodLink "MarkedChains$Play" (97 : Nat) ({ cls := "MarkedChains$Chain", name := "traded", desc := "(III)I" } : Jvm.MethodName) ∈ gtb := gt_of (tm3 168 rfl) rfl
theorem w3_169 : Jvm.Cond.static ({ cls := "MarkedChains$Chain", name := "traded", desc := "(III)I" } : Jvm.MethodName) ∈ gtb := gt_of (tm3 169 rfl) rfl
theorem w3_170 : Jvm.Cond.code ({ cls := "MarkedChains$Chain", name := "traded", desc := "(III)I" } : Jvm.MethodName) prog_2_method_7_code (5 : Nat) (Option.some Jvm.ClassFile.FieldType.int) ∈ gtb := gt_of (tm3 170 rfl) rfl
theorem w3_172 : Jvm.Cond.methodLink "MarkedChainsLaw" (63 : Nat) ({ cls := "MarkedChains", name := "undo", desc := "()I" } : Jvm.MethodName) ∈ gtb := gt_of (tm3 172 rfl) rfl
theorem w3_173 : Jvm.Cond.instanceMethod ({ cls := "MarkedChains", name := "undo", desc := "()I" } : Jvm.MethodName) ∈ gtb := gt_of (tm3 173 rfl) rfl
theorem w3_174 : Jvm.Cond.selects "MarkedChains" ({ cls := "MarkedChains", name := "undo", desc := "()I" } : Jvm.MethodName) ({ cls := "MarkedChains", name := "undo", desc := "()I" } : Jvm.MethodName) ∈ gtb := gt_of (tm3 174 rfl) rfl
theorem w3_175 : Jvm.Cond.code ({ cls := "MarkedChains", name := "undo", desc := "()I" } : Jvm.MethodName) prog_1_method_13_code (1 : Nat) (Option.some Jvm.ClassFile.FieldType.int) ∈ gtb := gt_of (tm3 175 rfl) rfl
theorem w3_176 : Jvm.Cond.methodLink "MarkedChainsLaw" (67 : Nat) ({ cls := "MarkedChains", name := "keep", desc := "(I)I" } : Jvm.MethodName) ∈ gtb := gt_of (tm3 176 rfl) rfl
theorem w3_177 : Jvm.Cond.instanceMethod ({ cls := "MarkedChains", name := "keep", desc := "(I)I" } : Jvm.MethodName) ∈ gtb := gt_of (tm3 177 rfl) rfl
theorem w3_178 : Jvm.Cond.selects "MarkedChains" ({ cls := "MarkedChains", name := "keep", desc := "(I)I" } : Jvm.MethodName) ({ cls := "MarkedChains", name := "keep", desc := "(I)I" } : Jvm.MethodName) ∈ gtb := gt_of (tm3 178 rfl) rfl
theorem w3_179 : Jvm.Cond.code ({ cls := "MarkedChains", name := "keep", desc := "(I)I" } : Jvm.MethodName) prog_1_method_14_code (2 : Nat) (Option.some Jvm.ClassFile.FieldType.int) ∈ gtb := gt_of (tm3 179 rfl) rfl
theorem w3_180 : Jvm.Cond.methodLink "MarkedChainsLaw" (71 : Nat) ({ cls := "MarkedChains", name := "back", desc := "(I)I" } : Jvm.MethodName) ∈ gtb := gt_of (tm3 180 rfl) rfl
theorem w3_181 : Jvm.Cond.instanceMethod ({ cls := "MarkedChains", name := "back", desc := "(I)I" } : Jvm.MethodName) ∈ gtb := gt_of (tm3 181 rfl) rfl
theorem w3_182 : Jvm.Cond.selects "MarkedChains" ({ cls := "MarkedChains", name := "back", desc := "(I)I" } : Jvm.MethodName) ({ cls := "MarkedChains", name := "back", desc := "(I)I" } : Jvm.MethodName) ∈ gtb := gt_of (tm3 182 rfl) rfl
theorem w3_183 : Jvm.Cond.code ({ cls := "MarkedChains", name := "back", desc := "(I)I" } : Jvm.MethodName) prog_1_method_15_code (2 : Nat) (Option.some Jvm.ClassFile.FieldType.int) ∈ gtb := gt_of (tm3 183 rfl) rfl
theorem w3_184 : Jvm.Cond.methodLink "MarkedChainsLaw" (75 : Nat) ({ cls := "MarkedChains", name := "set", desc := "(II)I" } : Jvm.MethodName) ∈ gtb := gt_of (tm3 184 rfl) rfl
theorem w3_185 : Jvm.Cond.instanceMethod ({ cls := "MarkedChains", name := "set", desc := "(II)I" } : Jvm.MethodName) ∈ gtb := gt_of (tm3 185 rfl) rfl
theorem w3_186 : Jvm.Cond.selects "MarkedChains" ({ cls := "MarkedChains", name := "set", desc := "(II)I" } : Jvm.MethodName) ({ cls := "MarkedChains", name := "set", desc := "(II)I" } : Jvm.MethodName) ∈ gtb := gt_of (tm3 186 rfl) rfl
theorem w3_187 : Jvm.Cond.code ({ cls := "MarkedChains", name := "set", desc := "(II)I" } : Jvm.MethodName) prog_1_method_16_code (3 : Nat) (Option.some Jvm.ClassFile.FieldType.int) ∈ gtb := gt_of (tm3 187 rfl) rfl
theorem w3_188 : Jvm.Cond.methodLink "MarkedChains" (174 : Nat) ({ cls := "MarkedChains$Play", name := "isHonest", desc := "(I)Z" } : Jvm.MethodName) ∈ gtb := gt_of (tm3 188 rfl) rfl
theorem w3_189 : Jvm.Cond.methodLink "MarkedChains" (177 : Nat) ({ cls := "MarkedChains", name := "hasRoundBehind", desc := "(I)Z" } : Jvm.MethodName) ∈ gtb := gt_of (tm3 189 rfl) rfl
theorem w3_191 : Jvm.Cond.instanceMethod ({ cls := "MarkedChains", name := "hasRoundBehind", desc := "(I)Z" } : Jvm.MethodName) ∈ gtb := gt_of (tm3 191 rfl) rfl
theorem w3_192 : Jvm.Cond.code ({ cls := "MarkedChains", name := "hasRoundBehind", desc := "(I)Z" } : Jvm.MethodName) prog_1_method_51_code (2 : Nat) (Option.some Jvm.ClassFile.FieldType.boolean) ∈ gtb := gt_of (tm3 192 rfl) rfl
theorem w3_193 : Jvm.Cond.methodLink "MarkedChains" (180 : Nat) ({ cls := "MarkedChains$Run", name := "setOf", desc := "(II)I" } : Jvm.MethodName) ∈ gtb := gt_of (tm3 193 rfl) rfl
theorem w3_194 : Jvm.Cond.instanceMethod ({ cls := "MarkedChains$Run", name := "setOf", desc := "(II)I" } : Jvm.MethodName) ∈ gtb := gt_of (tm3 194 rfl) rfl
theorem w3_195 : Jvm.Cond.selects "MarkedChains$Run" ({ cls := "MarkedChains$Run", name := "setOf", desc := "(II)I" } : Jvm.MethodName) ({ cls := "MarkedChains$Run", name := "setOf", desc := "(II)I" } : Jvm.MethodName) ∈ gtb := gt_of (tm3 195 rfl) rfl
theorem w3_196 : Jvm.Cond.code ({ cls := "MarkedChains$Run", name := "setOf", desc := "(II)I" } : Jvm.MethodName) prog_5_method_17_code (3 : Nat) (Option.some Jvm.ClassFile.FieldType.int) ∈ gtb := gt_of (tm3 196 rfl) rfl
theorem w3_197 : Jvm.Cond.methodLink "MarkedChainsLaw" (79 : Nat) ({ cls := "MarkedChains", name := "decision", desc := "(I)I" } : Jvm.MethodName) ∈ gtb := gt_of (tm3 197 rfl) rfl
theorem w3_198 : Jvm.Cond.instanceMethod ({ cls := "MarkedChains", name := "decision", desc := "(I)I" } : Jvm.MethodName) ∈ gtb := gt_of (tm3 198 rfl) rfl
theorem w3_199 : Jvm.Cond.selects "MarkedChains" ({ cls := "MarkedChains", name := "decision", desc := "(I)I" } : Jvm.MethodName) ({ cls := "MarkedChains", name := "decision", desc := "(I)I" } : Jvm.MethodName) ∈ gtb := gt_of (tm3 199 rfl) rfl
theorem w3_200 : Jvm.Cond.code ({ cls := "MarkedChains", name := "decision", desc := "(I)I" } : Jvm.MethodName) prog_1_method_17_code (2 : Nat) (Option.some Jvm.ClassFile.FieldType.int) ∈ gtb := gt_of (tm3 200 rfl) rfl
theorem w3_201 : Jvm.Cond.methodLink "MarkedChains" (183 : Nat) ({ cls := "MarkedChains$Run", name := "decisionOf", desc := "(I)I" } : Jvm.MethodName) ∈ gtb := gt_of (tm3 201 rfl) rfl
theorem w3_202 : Jvm.Cond.instanceMethod ({ cls := "MarkedChains$Run", name := "decisionOf", desc := "(I)I" } : Jvm.MethodName) ∈ gtb := gt_of (tm3 202 rfl) rfl
theorem w3_203 : Jvm.Cond.selects "MarkedChains$Run" ({ cls := "MarkedChains$Run", name := "decisionOf", desc := "(I)I" } : Jvm.MethodName) ({ cls := "MarkedChains$Run", name := "decisionOf", desc := "(I)I" } : Jvm.MethodName) ∈ gtb := gt_of (tm3 203 rfl) rfl
theorem w3_204 : Jvm.Cond.code ({ cls := "MarkedChains$Run", name := "decisionOf", desc := "(I)I" } : Jvm.MethodName) prog_5_method_18_code (4 : Nat) (Option.some Jvm.ClassFile.FieldType.int) ∈ gtb := gt_of (tm3 204 rfl) rfl
theorem w3_205 : Jvm.Cond.methodLink "MarkedChains$Run" (195 : Nat) ({ cls := "MarkedChains$Run", name := "setOf", desc := "(II)I" } : Jvm.MethodName) ∈ gtb := gt_of (tm3 205 rfl) rfl
theorem w3_206 : Jvm.Cond.methodLink "MarkedChainsLaw" (83 : Nat) ({ cls := "MarkedChains", name := "extracted", desc := "(III)I" } : Jvm.MethodName) ∈ gtb := gt_of (tm3 206 rfl) rfl
theorem w3_207 : Jvm.Cond.instanceMethod ({ cls := "MarkedChains", name := "extracted", desc := "(III)I" } : Jvm.MethodName) ∈ gtb := gt_of (tm3 207 rfl) rfl
theorem w3_208 : Jvm.Cond.selects "MarkedChains" ({ cls := "MarkedChains", name := "extracted", desc := "(III)I" } : Jvm.MethodName) ({ cls := "MarkedChains", name := "extracted", desc := "(III)I" } : Jvm.MethodName) ∈ gtb := gt_of (tm3 208 rfl) rfl
theorem w3_209 : Jvm.Cond.code ({ cls := "MarkedChains", name := "extracted", desc := "(III)I" } : Jvm.MethodName) prog_1_method_18_code (6 : Nat) (Option.some Jvm.ClassFile.FieldType.int) ∈ gtb := gt_of (tm3 209 rfl) rfl
theorem w3_210 : Jvm.Cond.methodLink "MarkedChains" (186 : Nat) ({ cls := "MarkedChains", name := "cellOf", desc := "(II)I" } : Jvm.MethodName) ∈ gtb := gt_of (tm3 210 rfl) rfl
theorem w3_211 : Jvm.Cond.methodLink "MarkedChains" (198 : Nat) ({ cls := "MarkedChains$Run", name := "relays", desc := "(II)Z" } : Jvm.MethodName) ∈ gtb := gt_of (tm3 211 rfl) rfl
theorem w3_212 : Jvm.Cond.methodLink "MarkedChainsLaw" (147 : Nat) ({ cls := "MarkedChains", name := "holders", desc := "(II)I" } : Jvm.MethodName) ∈ gtb := gt_of (tm3 212 rfl) rfl
theorem w3_213 : Jvm.Cond.instanceMethod ({ cls := "MarkedChains", name := "holders", desc := "(II)I" } : Jvm.MethodName) ∈ gtb := gt_of (tm3 213 rfl) rfl
theorem w3_214 : Jvm.Cond.selects "MarkedChains" ({ cls := "MarkedChains", name := "holders", desc := "(II)I" } : Jvm.MethodName) ({ cls := "MarkedChains", name := "holders", desc := "(II)I" } : Jvm.MethodName) ∈ gtb := gt_of (tm3 214 rfl) rfl
theorem w3_215 : Jvm.Cond.code ({ cls := "MarkedChains", name := "holders", desc := "(II)I" } : Jvm.MethodName) prog_1_method_19_code (5 : Nat) (Option.some Jvm.ClassFile.FieldType.int) ∈ gtb := gt_of (tm3 215 rfl) rfl
theorem w3_216 : Jvm.Cond.methodLink "MarkedChainsLaw" (151 : Nat) ({ cls := "MarkedChains", name := "path", desc := "(III)I" } : Jvm.MethodName) ∈ gtb := gt_of (tm3 216 rfl) rfl
theorem w3_217 : Jvm.Cond.instanceMethod ({ cls := "MarkedChains", name := "path", desc := "(III)I" } : Jvm.MethodName) ∈ gtb := gt_of (tm3 217 rfl) rfl
theorem w3_218 : Jvm.Cond.selects "MarkedChains" ({ cls := "MarkedChains", name := "path", desc := "(III)I" } : Jvm.MethodName) ({ cls := "MarkedChains", name := "path", desc := "(III)I" } : Jvm.MethodName) ∈ gtb := gt_of (tm3 218 rfl) rfl
theorem w3_219 : Jvm.Cond.code ({ cls := "MarkedChains", name := "path", desc := "(III)I" } : Jvm.MethodName) prog_1_method_20_code (6 : Nat) (Option.some Jvm.ClassFile.FieldType.int) ∈ gtb := gt_of (tm3 219 rfl) rfl
theorem w3_220 : Jvm.Cond.methodLink "MarkedChainsLaw" (155 : Nat) ({ cls := "MarkedChains", name := "caught", desc := "(I)I" } : Jvm.MethodName) ∈ gtb := gt_of (tm3 220 rfl) rfl
theorem w3_221 : Jvm.Cond.instanceMethod ({ cls := "MarkedChains", name := "caught", desc := "(I)I" } : Jvm.MethodName) ∈ gtb := gt_of (tm3 221 rfl) rfl
theorem w3_222 : Jvm.Cond.selects "MarkedChains" ({ cls := "MarkedChains", name := "caught", desc := "(I)I" } : Jvm.MethodName) ({ cls := "MarkedChains", name := "caught", desc := "(I)I" } : Jvm.MethodName) ∈ gtb := gt_of (tm3 222 rfl) rfl
theorem w3_223 : Jvm.Cond.code ({ cls := "MarkedChains", name := "caught", desc := "(I)I" } : Jvm.MethodName) prog_1_method_21_code (2 : Nat) (Option.some Jvm.ClassFile.FieldType.int) ∈ gtb := gt_of (tm3 223 rfl) rfl
theorem w3_224 : Jvm.Cond.methodLink "MarkedChains" (201 : Nat) ({ cls := "MarkedChains$Run", name := "firstTwoFaced", desc := "(I)I" } : Jvm.MethodName) ∈ gtb := gt_of (tm3 224 rfl) rfl
theorem w3_225 : Jvm.Cond.instanceMethod ({ cls := "MarkedChains$Run", name := "firstTwoFaced", desc := "(I)I" } : Jvm.MethodName) ∈ gtb := gt_of (tm3 225 rfl) rfl
theorem w3_226 : Jvm.Cond.selects "MarkedChains$Run" ({ cls := "MarkedChains$Run", name := "firstTwoFaced", desc := "(I)I" } : Jvm.MethodName) ({ cls := "MarkedChains$Run", name := "firstTwoFaced", desc := "(I)I" } : Jvm.MethodName) ∈ gtb := gt_of (tm3 226 rfl) rfl
theorem w3_227 : Jvm.Cond.code ({ cls := "MarkedChains$Run", name := "firstTwoFaced", desc := "(I)I" } : Jvm.MethodName) prog_5_method_24_code (7 : Nat) (Option.some Jvm.ClassFile.FieldType.int) ∈ gtb := gt_of (tm3 227 rfl) rfl
theorem w3_228 : Jvm.Cond.methodLink "MarkedChains$Run" (207 : Nat) ({ cls := "MarkedChains$Chain", name := "bears", desc := "(II)Z" } : Jvm.MethodName) ∈ gtb := gt_of (tm3 228 rfl) rfl
theorem w3_229 : Jvm.Cond.methodLink "MarkedChains$Run" (210 : Nat) ({ cls := "java/lang/Integer", name := "bitCount", desc := "(I)I" } : Jvm.MethodName) ∈ gtb := gt_of (tm3 229 rfl) rfl
theorem w3_230 : Jvm.Cond.methodLink "MarkedChainsLaw" (87 : Nat) ({ cls := "MarkedChains", name := "letter", desc := "(II)I" } : Jvm.MethodName) ∈ gtb := gt_of (tm3 230 rfl) rfl
theorem w3_231 : Jvm.Cond.instanceMethod ({ cls := "MarkedChains", name := "letter", desc := "(II)I" } : Jvm.MethodName) ∈ gtb := gt_of (tm3 231 rfl) rfl
theorem w3_232 : Jvm.Cond.selects "MarkedChains" ({ cls := "MarkedChains", name := "letter", desc := "(II)I" } : Jvm.MethodName) ({ cls := "MarkedChains", name := "letter", desc := "(II)I" } : Jvm.MethodName) ∈ gtb := gt_of (tm3 232 rfl) rfl
theorem w3_233 : Jvm.Cond.code ({ cls := "MarkedChains", name := "letter", desc := "(II)I" } : Jvm.MethodName) prog_1_method_22_code (3 : Nat) (Option.some Jvm.ClassFile.FieldType.int) ∈ gtb := gt_of (tm3 233 rfl) rfl
theorem w3_234 : Jvm.Cond.methodLink "MarkedChains" (207 : Nat) ({ cls := "MarkedChains", name := "hasLetter", desc := "(I)Z" } : Jvm.MethodName) ∈ gtb := gt_of (tm3 234 rfl) rfl
theorem w3_236 : Jvm.Cond.instanceMethod ({ cls := "MarkedChains", name := "hasLetter", desc := "(I)Z" } : Jvm.MethodName) ∈ gtb := gt_of (tm3 236 rfl) rfl
theorem w3_237 : Jvm.Cond.code ({ cls := "MarkedChains", name := "hasLetter", desc := "(I)Z" } : Jvm.MethodName) prog_1_method_50_code (2 : Nat) (Option.some Jvm.ClassFile.FieldType.boolean) ∈ gtb := gt_of (tm3 237 rfl) rfl
theorem w3_238 : Jvm.Cond.methodLink "MarkedChains" (213 : Nat) ({ cls := "MarkedChains$Route", name := "roundOf", desc := "(I)I" } : Jvm.MethodName) ∈ gtb := gt_of (tm3 238 rfl) rfl
theorem w3_239 : Jvm.Cond.methodLink "MarkedChains" (216 : Nat) ({ cls := "MarkedChains$Route", name := "fromOf", desc := "(I)I" } : Jvm.MethodName) ∈ gtb := gt_of (tm3 239 rfl) rfl
theorem w4_0 : Jvm.Cond.methodLink "MarkedChains" (219 : Nat) ({ cls := "MarkedChains$Route", name := "toOf", desc := "(I)I" } : Jvm.MethodName) ∈ gtb := gt_of (tm4 0 rfl) rfl
theorem w4_1 : Jvm.Cond.methodLink "MarkedChainsLaw" (91 : Nat) ({ cls := "MarkedChains", name := "mark", desc := "(II)I" } : Jvm.MethodName) ∈ gtb := gt_of (tm4 1 rfl) rfl
theorem w4_2 : Jvm.Cond.instanceMethod ({ cls := "MarkedChains", name := "mark", desc := "(II)I" } : Jvm.MethodName) ∈ gtb := gt_of (tm4 2 rfl) rfl
theorem w4_3 : Jvm.Cond.selects "MarkedChains" ({ cls := "MarkedChains", name := "mark", desc := "(II)I" } : Jvm.MethodName) ({ cls := "MarkedChains", name := "mark", desc := "(II)I" } : Jvm.MethodName) ∈ gtb := gt_of (tm4 3 rfl) rfl
theorem w4_4 : Jvm.Cond.code ({ cls := "MarkedChains", name := "mark", desc := "(II)I" } : Jvm.MethodName) prog_1_method_23_code (3 : Nat) (Option.some Jvm.ClassFile.FieldType.int) ∈ gtb := gt_of (tm4 4 rfl) rfl
theorem w4_5 : Jvm.Cond.methodLink "MarkedChainsLaw" (95 : Nat) ({ cls := "MarkedChains", name := "packed", desc := "(I)J" } : Jvm.MethodName) ∈ gtb := gt_of (tm4 5 rfl) rfl
theorem w4_6 : Jvm.Cond.instanceMethod ({ cls := "MarkedChains", name := "packed", desc := "(I)J" } : Jvm.MethodName) ∈ gtb := gt_of (tm4 6 rfl) rfl
theorem w4_7 : Jvm.Cond.selects "MarkedChains" ({ cls := "MarkedChains", name := "packed", desc := "(I)J" } : Jvm.MethodName) ({ cls := "MarkedChains", name := "packed", desc := "(I)J" } : Jvm.MethodName) ∈ gtb := gt_of (tm4 7 rfl) rfl
theorem w4_8 : Jvm.Cond.code ({ cls := "MarkedChains", name := "packed", desc := "(I)J" } : Jvm.MethodName) prog_1_method_24_code (2 : Nat) (Option.some Jvm.ClassFile.FieldType.long) ∈ gtb := gt_of (tm4 8 rfl) rfl
theorem w4_9 : Jvm.Cond.constantLong "MarkedChains" (234 : Nat) (-1 : Int64) ∈ gtb := gt_of (tm4 9 rfl) rfl
theorem w4_10 : Jvm.Cond.methodLink "MarkedChains" (236 : Nat) ({ cls := "MarkedChains$Chain", name := "pack", desc := "(II)J" } : Jvm.MethodName) ∈ gtb := gt_of (tm4 10 rfl) rfl
theorem w4_11 : Jvm.Cond.static ({ cls := "MarkedChains$Chain", name := "pack", desc := "(II)J" } : Jvm.MethodName) ∈ gtb := gt_of (tm4 11 rfl) rfl
theorem w4_12 : Jvm.Cond.code ({ cls := "MarkedChains$Chain", name := "pack", desc := "(II)J" } : Jvm.MethodName) prog_2_method_10_code (5 : Nat) (Option.some Jvm.ClassFile.FieldType.long) ∈ gtb := gt_of (tm4 12 rfl) rfl
theorem w4_13 : Jvm.Cond.constantLong "MarkedChains$Chain" (34 : Nat) (9 : Int64) ∈ gtb := gt_of (tm4 13 rfl) rfl
theorem w4_14 : Jvm.Cond.constantLong "MarkedChains$Chain" (36 : Nat) (4 : Int64) ∈ gtb := gt_of (tm4 14 rfl) rfl
theorem w4_15 : Jvm.Cond.methodLink "MarkedChainsLaw" (102 : Nat) ({ cls := "MarkedChains", name := "open", desc := "(JI)I" } : Jvm.MethodName) ∈ gtb := gt_of (tm4 15 rfl) rfl
theorem w4_16 : Jvm.Cond.instanceMethod ({ cls := "MarkedChains", name := "open", desc := "(JI)I" } : Jvm.MethodName) ∈ gtb := gt_of (tm4 16 rfl) rfl
theorem w4_17 : Jvm.Cond.selects "MarkedChains" ({ cls := "MarkedChains", name := "open", desc := "(JI)I" } : Jvm.MethodName) ({ cls := "MarkedChains", name := "open", desc := "(JI)I" } : Jvm.MethodName) ∈ gtb := gt_of (tm4 17 rfl) rfl
theorem w4_18 : Jvm.Cond.code ({ cls := "MarkedChains", name := "open", desc := "(JI)I" } : Jvm.MethodName) prog_1_method_25_code (6 : Nat) (Option.some Jvm.ClassFile.FieldType.int) ∈ gtb := gt_of (tm4 18 rfl) rfl
theorem w4_19 : Jvm.Cond.methodLink "MarkedChains" (240 : Nat) ({ cls := "MarkedChains$Chain", name := "unpack", desc := "(J)I" } : Jvm.MethodName) ∈ gtb := gt_of (tm4 19 rfl) rfl
theorem w4_20 : Jvm.Cond.static ({ cls := "MarkedChains$Chain", name := "unpack", desc := "(J)I" } : Jvm.MethodName) ∈ gtb := gt_of (tm4 20 rfl) rfl
theorem w4_21 : Jvm.Cond.code ({ cls := "MarkedChains$Chain", name := "unpack", desc := "(J)I" } : Jvm.MethodName) prog_2_method_11_code (7 : Nat) (Option.some Jvm.ClassFile.FieldType.int) ∈ gtb := gt_of (tm4 21 rfl) rfl
theorem w4_22 : Jvm.Cond.constantLong "MarkedChains" (244 : Nat) (4 : Int64) ∈ gtb := gt_of (tm4 22 rfl) rfl
theorem w4_23 : Jvm.Cond.methodLink "MarkedChainsLaw" (107 : Nat) ({ cls := "MarkedChains", name := "sent", desc := "(I)I" } : Jvm.MethodName) ∈ gtb := gt_of (tm4 23 rfl) rfl
theorem w4_24 : Jvm.Cond.instanceMethod ({ cls := "MarkedChains", name := "sent", desc := "(I)I" } : Jvm.MethodName) ∈ gtb := gt_of (tm4 24 rfl) rfl
theorem w4_25 : Jvm.Cond.selects "MarkedChains" ({ cls := "MarkedChains", name := "sent", desc := "(I)I" } : Jvm.MethodName) ({ cls := "MarkedChains", name := "sent", desc := "(I)I" } : Jvm.MethodName) ∈ gtb := gt_of (tm4 25 rfl) rfl
theorem w4_26 : Jvm.Cond.code ({ cls := "MarkedChains", name := "sent", desc := "(I)I" } : Jvm.MethodName) prog_1_method_26_code (2 : Nat) (Option.some Jvm.ClassFile.FieldType.int) ∈ gtb := gt_of (tm4 26 rfl) rfl
theorem w4_27 : Jvm.Cond.methodLink "MarkedChains" (246 : Nat) ({ cls := "MarkedChains", name := "isRoundOrNone", desc := "(I)Z" } : Jvm.MethodName) ∈ gtb := gt_of (tm4 27 rfl) rfl
theorem w4_28 : Jvm.Cond.static ({ cls := "MarkedChains", name := "isRoundOrNone", desc := "(I)Z" } : Jvm.MethodName) ∈ gtb := gt_of (tm4 28 rfl) rfl
theorem w4_29 : Jvm.Cond.code ({ cls := "MarkedChains", name := "isRoundOrNone", desc := "(I)Z" } : Jvm.MethodName) prog_1_method_52_code (1 : Nat) (Option.some Jvm.ClassFile.FieldType.boolean) ∈ gtb := gt_of (tm4 29 rfl) rfl
theorem w4_30 : Jvm.Cond.methodLink "MarkedChains" (249 : Nat) ({ cls := "MarkedChains$Run", name := "lettersOf", desc := "(I)I" } : Jvm.MethodName) ∈ gtb := gt_of (tm4 30 rfl) rfl
theorem w4_31 : Jvm.Cond.instanceMethod ({ cls := "MarkedChains$Run", name := "lettersOf", desc := "(I)I" } : Jvm.MethodName) ∈ gtb := gt_of (tm4 31 rfl) rfl
theorem w4_32 : Jvm.Cond.selects "MarkedChains$Run" ({ cls := "MarkedChains$Run", name := "lettersOf", desc := "(I)I" } : Jvm.MethodName) ({ cls := "MarkedChains$Run", name := "lettersOf", desc := "(I)I" } : Jvm.MethodName) ∈ gtb := gt_of (tm4 32 rfl) rfl
theorem w4_33 : Jvm.Cond.code ({ cls := "MarkedChains$Run", name := "lettersOf", desc := "(I)I" } : Jvm.MethodName) prog_5_method_26_code (4 : Nat) (Option.some Jvm.ClassFile.FieldType.int) ∈ gtb := gt_of (tm4 33 rfl) rfl
theorem w4_34 : Jvm.Cond.methodLink "MarkedChainsLaw" (111 : Nat) ({ cls := "MarkedChains", name := "forged", desc := "(I)I" } : Jvm.MethodName) ∈ gtb := gt_of (tm4 34 rfl) rfl
theorem w4_35 : Jvm.Cond.instanceMethod ({ cls := "MarkedChains", name := "forged", desc := "(I)I" } : Jvm.MethodName) ∈ gtb := gt_of (tm4 35 rfl) rfl
theorem w4_36 : Jvm.Cond.selects "MarkedChains" ({ cls := "MarkedChains", name := "forged", desc := "(I)I" } : Jvm.MethodName) ({ cls := "MarkedChains", name := "forged", desc := "(I)I" } : Jvm.MethodName) ∈ gtb := gt_of (tm4 36 rfl) rfl
theorem w4_37 : Jvm.Cond.code ({ cls := "MarkedChains", name := "forged", desc := "(I)I" } : Jvm.MethodName) prog_1_method_27_code (2 : Nat) (Option.some Jvm.ClassFile.FieldType.int) ∈ gtb := gt_of (tm4 37 rfl) rfl
theorem w4_38 : Jvm.Cond.methodLink "MarkedChains" (255 : Nat) ({ cls := "MarkedChains$Play", name := "idlePlans", desc := "()I" } : Jvm.MethodName) ∈ gtb := gt_of (tm4 38 rfl) rfl
theorem w4_39 : Jvm.Cond.instanceMethod ({ cls := "MarkedChains$Play", name := "idlePlans", desc := "()I" } : Jvm.MethodName) ∈ gtb := gt_of (tm4 39 rfl) rfl
theorem w4_40 : Jvm.Cond.selects "MarkedChains$Play" ({ cls := "MarkedChains$Play", name := "idlePlans", desc := "()I" } : Jvm.MethodName) ({ cls := "MarkedChains$Play", name := "idlePlans", desc := "()I" } : Jvm.MethodName) ∈ gtb := gt_of (tm4 40 rfl) rfl
theorem w4_41 : Jvm.Cond.code ({ cls := "MarkedChains$Play", name := "idlePlans", desc := "()I" } : Jvm.MethodName) prog_3_method_26_code (4 : Nat) (Option.some Jvm.ClassFile.FieldType.int) ∈ gtb := gt_of (tm4 41 rfl) rfl
theorem w4_42 : Jvm.Cond.methodLink "MarkedChains$Play" (120 : Nat) ({ cls := "MarkedChains$Route", name := "roundOf", desc := "(I)I" } : Jvm.MethodName) ∈ gtb := gt_of (tm4 42 rfl) rfl
theorem w4_43 : Jvm.Cond.methodLink "MarkedChains$Play" (114 : Nat) ({ cls := "MarkedChains$Route", name := "fromOf", desc := "(I)I" } : Jvm.MethodName) ∈ gtb := gt_of (tm4 43 rfl) rfl
theorem w4_44 : Jvm.Cond.methodLink "MarkedChainsLaw" (115 : Nat) ({ cls := "MarkedChains", name := "known", desc := "(II)I" } : Jvm.MethodName) ∈ gtb := gt_of (tm4 44 rfl) rfl
theorem w4_45 : Jvm.Cond.instanceMethod ({ cls := "MarkedChains", name := "known", desc := "(II)I" } : Jvm.MethodName) ∈ gtb := gt_of (tm4 45 rfl) rfl
theorem w4_46 : Jvm.Cond.selects "MarkedChains" ({ cls := "MarkedChains", name := "known", desc := "(II)I" } : Jvm.MethodName) ({ cls := "MarkedChains", name := "known", desc := "(II)I" } : Jvm.MethodName) ∈ gtb := gt_of (tm4 46 rfl) rfl
theorem w4_47 : Jvm.Cond.code ({ cls := "MarkedChains", name := "known", desc := "(II)I" } : Jvm.MethodName) prog_1_method_28_code (4 : Nat) (Option.some Jvm.ClassFile.FieldType.int) ∈ gtb := gt_of (tm4 47 rfl) rfl
theorem w4_48 : Jvm.Cond.methodLink "MarkedChainsLaw" (159 : Nat) ({ cls := "MarkedChains", name := "bits", desc := "(I)I" } : Jvm.MethodName) ∈ gtb := gt_of (tm4 48 rfl) rfl
theorem w4_49 : Jvm.Cond.instanceMethod ({ cls := "MarkedChains", name := "bits", desc := "(I)I" } : Jvm.MethodName) ∈ gtb := gt_of (tm4 49 rfl) rfl
theorem w4_50 : Jvm.Cond.selects "MarkedChains" ({ cls := "MarkedChains", name := "bits", desc := "(I)I" } : Jvm.MethodName) ({ cls := "MarkedChains", name := "bits", desc := "(I)I" } : Jvm.MethodName) ∈ gtb := gt_of (tm4 50 rfl) rfl
theorem w4_51 : Jvm.Cond.code ({ cls := "MarkedChains", name := "bits", desc := "(I)I" } : Jvm.MethodName) prog_1_method_29_code (2 : Nat) (Option.some Jvm.ClassFile.FieldType.int) ∈ gtb := gt_of (tm4 51 rfl) rfl
theorem w4_52 : Jvm.Cond.methodLink "MarkedChains" (261 : Nat) ({ cls := "MarkedChains$Run", name := "greatestBits", desc := "()I" } : Jvm.MethodName) ∈ gtb := gt_of (tm4 52 rfl) rfl
theorem w4_53 : Jvm.Cond.instanceMethod ({ cls := "MarkedChains$Run", name := "greatestBits", desc := "()I" } : Jvm.MethodName) ∈ gtb := gt_of (tm4 53 rfl) rfl
theorem w4_54 : Jvm.Cond.selects "MarkedChains$Run" ({ cls := "MarkedChains$Run", name := "greatestBits", desc := "()I" } : Jvm.MethodName) ({ cls := "MarkedChains$Run", name := "greatestBits", desc := "()I" } : Jvm.MethodName) ∈ gtb := gt_of (tm4 54 rfl) rfl
theorem w4_55 : Jvm.Cond.code ({ cls := "MarkedChains$Run", name := "greatestBits", desc := "()I" } : Jvm.MethodName) prog_5_method_29_code (3 : Nat) (Option.some Jvm.ClassFile.FieldType.int) ∈ gtb := gt_of (tm4 55 rfl) rfl
theorem w4_56 : Jvm.Cond.methodLink "MarkedChains$Run" (215 : Nat) ({ cls := "MarkedChains$Run", name := "bitsOfLetter", desc := "(I)I" } : Jvm.MethodName) ∈ gtb := gt_of (tm4 56 rfl) rfl
theorem w4_58 : Jvm.Cond.instanceMethod ({ cls := "MarkedChains$Run", name := "bitsOfLetter", desc := "(I)I" } : Jvm.MethodName) ∈ gtb := gt_of (tm4 58 rfl) rfl
theorem w4_59 : Jvm.Cond.code ({ cls := "MarkedChains$Run", name := "bitsOfLetter", desc := "(I)I" } : Jvm.MethodName) prog_5_method_27_code (2 : Nat) (Option.some Jvm.ClassFile.FieldType.int) ∈ gtb := gt_of (tm4 59 rfl) rfl
theorem w4_60 : Jvm.Cond.methodLink "MarkedChains$Run" (218 : Nat) ({ cls := "java/lang/Math", name := "max", desc := "(II)I" } : Jvm.MethodName) ∈ gtb := gt_of (tm4 60 rfl) rfl
theorem w4_61 : Jvm.Cond.methodLink "MarkedChains" (264 : Nat) ({ cls := "MarkedChains$Run", name := "bitsOf", desc := "(I)I" } : Jvm.MethodName) ∈ gtb := gt_of (tm4 61 rfl) rfl
theorem w4_62 : Jvm.Cond.instanceMethod ({ cls := "MarkedChains$Run", name := "bitsOf", desc := "(I)I" } : Jvm.MethodName) ∈ gtb := gt_of (tm4 62 rfl) rfl
theorem w4_63 : Jvm.Cond.selects "MarkedChains$Run" ({ cls := "MarkedChains$Run", name := "bitsOf", desc := "(I)I" } : Jvm.MethodName) ({ cls := "MarkedChains$Run", name := "bitsOf", desc := "(I)I" } : Jvm.MethodName) ∈ gtb := gt_of (tm4 63 rfl) rfl
theorem w4_64 : Jvm.Cond.code ({ cls := "MarkedChains$Run", name := "bitsOf", desc := "(I)I" } : Jvm.MethodName) prog_5_method_28_code (4 : Nat) (Option.some Jvm.ClassFile.FieldType.int) ∈ gtb := gt_of (tm4 64 rfl) rfl
theorem w4_65 : Jvm.Cond.methodLink "MarkedChainsLaw" (163 : Nat) ({ cls := "MarkedChains", name := "load", desc := "(II)I" } : Jvm.MethodName) ∈ gtb := gt_of (tm4 65 rfl) rfl
theorem w4_66 : Jvm.Cond.instanceMethod ({ cls := "MarkedChains", name := "load", desc := "(II)I" } : Jvm.MethodName) ∈ gtb := gt_of (tm4 66 rfl) rfl
theorem w4_67 : Jvm.Cond.selects "MarkedChains" ({ cls := "MarkedChains", name := "load", desc := "(II)I" } : Jvm.MethodName) ({ cls := "MarkedChains", name := "load", desc := "(II)I" } : Jvm.MethodName) ∈ gtb := gt_of (tm4 67 rfl) rfl
theorem w4_68 : Jvm.Cond.code ({ cls := "MarkedChains", name := "load", desc := "(II)I" } : Jvm.MethodName) prog_1_method_30_code (3 : Nat) (Option.some Jvm.ClassFile.FieldType.int) ∈ gtb := gt_of (tm4 68 rfl) rfl
theorem w4_69 : Jvm.Cond.methodLink "MarkedChains" (267 : Nat) ({ cls := "MarkedChains$Run", name := "greatestLoad", desc := "()I" } : Jvm.MethodName) ∈ gtb := gt_of (tm4 69 rfl) rfl
theorem w4_70 : Jvm.Cond.instanceMethod ({ cls := "MarkedChains$Run", name := "greatestLoad", desc := "()I" } : Jvm.MethodName) ∈ gtb := gt_of (tm4 70 rfl) rfl
theorem w4_71 : Jvm.Cond.selects "MarkedChains$Run" ({ cls := "MarkedChains$Run", name := "greatestLoad", desc := "()I" } : Jvm.MethodName) ({ cls := "MarkedChains$Run", name := "greatestLoad", desc := "()I" } : Jvm.MethodName) ∈ gtb := gt_of (tm4 71 rfl) rfl
theorem w4_72 : Jvm.Cond.code ({ cls := "MarkedChains$Run", name := "greatestLoad", desc := "()I" } : Jvm.MethodName) prog_5_method_31_code (4 : Nat) (Option.some Jvm.ClassFile.FieldType.int) ∈ gtb := gt_of (tm4 72 rfl) rfl
theorem w4_73 : Jvm.Cond.methodLink "MarkedChains$Run" (221 : Nat) ({ cls := "MarkedChains$Run", name := "loadOf", desc := "(II)I" } : Jvm.MethodName) ∈ gtb := gt_of (tm4 73 rfl) rfl
theorem w4_74 : Jvm.Cond.instanceMethod ({ cls := "MarkedChains$Run", name := "loadOf", desc := "(II)I" } : Jvm.MethodName) ∈ gtb := gt_of (tm4 74 rfl) rfl
theorem w4_75 : Jvm.Cond.selects "MarkedChains$Run" ({ cls := "MarkedChains$Run", name := "loadOf", desc := "(II)I" } : Jvm.MethodName) ({ cls := "MarkedChains$Run", name := "loadOf", desc := "(II)I" } : Jvm.MethodName) ∈ gtb := gt_of (tm4 75 rfl) rfl
theorem w4_76 : Jvm.Cond.code ({ cls := "MarkedChains$Run", name := "loadOf", desc := "(II)I" } : Jvm.MethodName) prog_5_method_30_code (5 : Nat) (Option.some Jvm.ClassFile.FieldType.int) ∈ gtb := gt_of (tm4 76 rfl) rfl
theorem w4_77 : Jvm.Cond.methodLink "MarkedChains" (270 : Nat) ({ cls := "MarkedChains$Run", name := "loadOf", desc := "(II)I" } : Jvm.MethodName) ∈ gtb := gt_of (tm4 77 rfl) rfl
theorem w4_78 : Jvm.Cond.methodLink "MarkedChainsLaw" (119 : Nat) ({ cls := "MarkedChains", name := "alike", desc := "()I" } : Jvm.MethodName) ∈ gtb := gt_of (tm4 78 rfl) rfl
theorem w4_79 : Jvm.Cond.instanceMethod ({ cls := "MarkedChains", name := "alike", desc := "()I" } : Jvm.MethodName) ∈ gtb := gt_of (tm4 79 rfl) rfl
theorem w4_80 : Jvm.Cond.selects "MarkedChains" ({ cls := "MarkedChains", name := "alike", desc := "()I" } : Jvm.MethodName) ({ cls := "MarkedChains", name := "alike", desc := "()I" } : Jvm.MethodName) ∈ gtb := gt_of (tm4 80 rfl) rfl
theorem w4_81 : Jvm.Cond.code ({ cls := "MarkedChains", name := "alike", desc := "()I" } : Jvm.MethodName) prog_1_method_31_code (1 : Nat) (Option.some Jvm.ClassFile.FieldType.int) ∈ gtb := gt_of (tm4 81 rfl) rfl
theorem w4_82 : Jvm.Cond.methodLink "MarkedChains" (273 : Nat) ({ cls := "MarkedChains$Play", name := "soundParties", desc := "()I" } : Jvm.MethodName) ∈ gtb := gt_of (tm4 82 rfl) rfl
theorem w4_83 : Jvm.Cond.instanceMethod ({ cls := "MarkedChains$Play", name := "soundParties", desc := "()I" } : Jvm.MethodName) ∈ gtb := gt_of (tm4 83 rfl) rfl
theorem w4_84 : Jvm.Cond.selects "MarkedChains$Play" ({ cls := "MarkedChains$Play", name := "soundParties", desc := "()I" } : Jvm.MethodName) ({ cls := "MarkedChains$Play", name := "soundParties", desc := "()I" } : Jvm.MethodName) ∈ gtb := gt_of (tm4 84 rfl) rfl
theorem w4_85 : Jvm.Cond.code ({ cls := "MarkedChains$Play", name := "soundParties", desc := "()I" } : Jvm.MethodName) prog_3_method_24_code (3 : Nat) (Option.some Jvm.ClassFile.FieldType.int) ∈ gtb := gt_of (tm4 85 rfl) rfl
theorem w4_86 : Jvm.Cond.methodLink "MarkedChains$Play" (107 : Nat) ({ cls := "MarkedChains$Play", name := "endsOf", desc := "(I)I" } : Jvm.MethodName) ∈ gtb := gt_of (tm4 86 rfl) rfl
theorem w4_87 : Jvm.Cond.static ({ cls := "MarkedChains$Play", name := "endsOf", desc := "(I)I" } : Jvm.MethodName) ∈ gtb := gt_of (tm4 87 rfl) rfl
theorem w4_88 : Jvm.Cond.code ({ cls := "MarkedChains$Play", name := "endsOf", desc := "(I)I" } : Jvm.MethodName) prog_3_method_25_code (1 : Nat) (Option.some Jvm.ClassFile.FieldType.int) ∈ gtb := gt_of (tm4 88 rfl) rfl
theorem w4_89 : Jvm.Cond.methodLink "MarkedChains$Play" (117 : Nat) ({ cls := "MarkedChains$Route", name := "toOf", desc := "(I)I" } : Jvm.MethodName) ∈ gtb := gt_of (tm4 89 rfl) rfl
theorem w4_90 : Jvm.Cond.methodLink "MarkedChains$Play" (110 : Nat) ({ cls := "MarkedChains$Play", name := "honest", desc := "()I" } : Jvm.MethodName) ∈ gtb := gt_of (tm4 90 rfl) rfl
theorem w4_91 : Jvm.Cond.methodLink "MarkedChains" (276 : Nat) ({ cls := "MarkedChains$Run", name := "haveOneDecision", desc := "(I)Z" } : Jvm.MethodName) ∈ gtb := gt_of (tm4 91 rfl) rfl
theorem w4_92 : Jvm.Cond.instanceMethod ({ cls := "MarkedChains$Run", name := "haveOneDecision", desc := "(I)Z" } : Jvm.MethodName) ∈ gtb := gt_of (tm4 92 rfl) rfl
theorem w4_93 : Jvm.Cond.selects "MarkedChains$Run" ({ cls := "MarkedChains$Run", name := "haveOneDecision", desc := "(I)Z" } : Jvm.MethodName) ({ cls := "MarkedChains$Run", name := "haveOneDecision", desc := "(I)Z" } : Jvm.MethodName) ∈ gtb := gt_of (tm4 93 rfl) rfl
theorem w4_94 : Jvm.Cond.code ({ cls := "MarkedChains$Run", name := "haveOneDecision", desc := "(I)Z" } : Jvm.MethodName) prog_5_method_19_code (5 : Nat) (Option.some Jvm.ClassFile.FieldType.boolean) ∈ gtb := gt_of (tm4 94 rfl) rfl
theorem w4_95 : Jvm.Cond.methodLink "MarkedChains$Run" (198 : Nat) ({ cls := "MarkedChains$Run", name := "decisionOf", desc := "(I)I" } : Jvm.MethodName) ∈ gtb := gt_of (tm4 95 rfl) rfl
theorem w4_96 : Jvm.Cond.methodLink "MarkedChainsLaw" (123 : Nat) ({ cls := "MarkedChains", name := "valid", desc := "()I" } : Jvm.MethodName) ∈ gtb := gt_of (tm4 96 rfl) rfl
theorem w4_97 : Jvm.Cond.instanceMethod ({ cls := "MarkedChains", name := "valid", desc := "()I" } : Jvm.MethodName) ∈ gtb := gt_of (tm4 97 rfl) rfl
theorem w4_98 : Jvm.Cond.selects "MarkedChains" ({ cls := "MarkedChains", name := "valid", desc := "()I" } : Jvm.MethodName) ({ cls := "MarkedChains", name := "valid", desc := "()I" } : Jvm.MethodName) ∈ gtb := gt_of (tm4 98 rfl) rfl
theorem w4_99 : Jvm.Cond.code ({ cls := "MarkedChains", name := "valid", desc := "()I" } : Jvm.MethodName) prog_1_method_32_code (4 : Nat) (Option.some Jvm.ClassFile.FieldType.int) ∈ gtb := gt_of (tm4 99 rfl) rfl
theorem w4_100 : Jvm.Cond.methodLink "MarkedChainsLaw" (127 : Nat) ({ cls := "MarkedChains", name := "sound", desc := "()I" } : Jvm.MethodName) ∈ gtb := gt_of (tm4 100 rfl) rfl
theorem w4_101 : Jvm.Cond.instanceMethod ({ cls := "MarkedChains", name := "sound", desc := "()I" } : Jvm.MethodName) ∈ gtb := gt_of (tm4 101 rfl) rfl
theorem w4_102 : Jvm.Cond.selects "MarkedChains" ({ cls := "MarkedChains", name := "sound", desc := "()I" } : Jvm.MethodName) ({ cls := "MarkedChains", name := "sound", desc := "()I" } : Jvm.MethodName) ∈ gtb := gt_of (tm4 102 rfl) rfl
theorem w4_103 : Jvm.Cond.code ({ cls := "MarkedChains", name := "sound", desc := "()I" } : Jvm.MethodName) prog_1_method_33_code (1 : Nat) (Option.some Jvm.ClassFile.FieldType.int) ∈ gtb := gt_of (tm4 103 rfl) rfl
theorem w4_104 : Jvm.Cond.methodLink "MarkedChainsLaw" (167 : Nat) ({ cls := "MarkedChains", name := "calm", desc := "(I)I" } : Jvm.MethodName) ∈ gtb := gt_of (tm4 104 rfl) rfl
theorem w4_105 : Jvm.Cond.instanceMethod ({ cls := "MarkedChains", name := "calm", desc := "(I)I" } : Jvm.MethodName) ∈ gtb := gt_of (tm4 105 rfl) rfl
theorem w4_106 : Jvm.Cond.selects "MarkedChains" ({ cls := "MarkedChains", name := "calm", desc := "(I)I" } : Jvm.MethodName) ({ cls := "MarkedChains", name := "calm", desc := "(I)I" } : Jvm.MethodName) ∈ gtb := gt_of (tm4 106 rfl) rfl
theorem w4_107 : Jvm.Cond.code ({ cls := "MarkedChains", name := "calm", desc := "(I)I" } : Jvm.MethodName) prog_1_method_34_code (2 : Nat) (Option.some Jvm.ClassFile.FieldType.int) ∈ gtb := gt_of (tm4 107 rfl) rfl
theorem w4_108 : Jvm.Cond.methodLink "MarkedChains" (279 : Nat) ({ cls := "MarkedChains$Run", name := "firstStill", desc := "()I" } : Jvm.MethodName) ∈ gtb := gt_of (tm4 108 rfl) rfl
theorem w4_109 : Jvm.Cond.instanceMethod ({ cls := "MarkedChains$Run", name := "firstStill", desc := "()I" } : Jvm.MethodName) ∈ gtb := gt_of (tm4 109 rfl) rfl
theorem w4_110 : Jvm.Cond.selects "MarkedChains$Run" ({ cls := "MarkedChains$Run", name := "firstStill", desc := "()I" } : Jvm.MethodName) ({ cls := "MarkedChains$Run", name := "firstStill", desc := "()I" } : Jvm.MethodName) ∈ gtb := gt_of (tm4 110 rfl) rfl
theorem w4_111 : Jvm.Cond.code ({ cls := "MarkedChains$Run", name := "firstStill", desc := "()I" } : Jvm.MethodName) prog_5_method_22_code (2 : Nat) (Option.some Jvm.ClassFile.FieldType.int) ∈ gtb := gt_of (tm4 111 rfl) rfl
theorem w4_112 : Jvm.Cond.methodLink "MarkedChains$Run" (204 : Nat) ({ cls := "MarkedChains$Run", name := "someSetChanges", desc := "(I)Z" } : Jvm.MethodName) ∈ gtb := gt_of (tm4 112 rfl) rfl
theorem w4_114 : Jvm.Cond.instanceMethod ({ cls := "MarkedChains$Run", name := "someSetChanges", desc := "(I)Z" } : Jvm.MethodName) ∈ gtb := gt_of (tm4 114 rfl) rfl
theorem w4_115 : Jvm.Cond.code ({ cls := "MarkedChains$Run", name := "someSetChanges", desc := "(I)Z" } : Jvm.MethodName) prog_5_method_23_code (3 : Nat) (Option.some Jvm.ClassFile.FieldType.boolean) ∈ gtb := gt_of (tm4 115 rfl) rfl
theorem w4_116 : Jvm.Cond.methodLink "MarkedChains" (282 : Nat) ({ cls := "MarkedChains$Run", name := "firstUnited", desc := "(I)I" } : Jvm.MethodName) ∈ gtb := gt_of (tm4 116 rfl) rfl
theorem w4_117 : Jvm.Cond.instanceMethod ({ cls := "MarkedChains$Run", name := "firstUnited", desc := "(I)I" } : Jvm.MethodName) ∈ gtb := gt_of (tm4 117 rfl) rfl
theorem w4_118 : Jvm.Cond.selects "MarkedChains$Run" ({ cls := "MarkedChains$Run", name := "firstUnited", desc := "(I)I" } : Jvm.MethodName) ({ cls := "MarkedChains$Run", name := "firstUnited", desc := "(I)I" } : Jvm.MethodName) ∈ gtb := gt_of (tm4 118 rfl) rfl
theorem w4_119 : Jvm.Cond.code ({ cls := "MarkedChains$Run", name := "firstUnited", desc := "(I)I" } : Jvm.MethodName) prog_5_method_21_code (3 : Nat) (Option.some Jvm.ClassFile.FieldType.int) ∈ gtb := gt_of (tm4 119 rfl) rfl
theorem w4_120 : Jvm.Cond.methodLink "MarkedChains$Run" (201 : Nat) ({ cls := "MarkedChains$Run", name := "haveOneSet", desc := "(II)Z" } : Jvm.MethodName) ∈ gtb := gt_of (tm4 120 rfl) rfl
theorem w4_122 : Jvm.Cond.instanceMethod ({ cls := "MarkedChains$Run", name := "haveOneSet", desc := "(II)Z" } : Jvm.MethodName) ∈ gtb := gt_of (tm4 122 rfl) rfl
theorem w4_123 : Jvm.Cond.code ({ cls := "MarkedChains$Run", name := "haveOneSet", desc := "(II)Z" } : Jvm.MethodName) prog_5_method_20_code (6 : Nat) (Option.some Jvm.ClassFile.FieldType.boolean) ∈ gtb := gt_of (tm4 123 rfl) rfl
theorem w4_124 : Jvm.Cond.methodLink "MarkedChainsLaw" (131 : Nat) ({ cls := "MarkedChains", name := "parted", desc := "()I" } : Jvm.MethodName) ∈ gtb := gt_of (tm4 124 rfl) rfl
theorem w4_125 : Jvm.Cond.instanceMethod ({ cls := "MarkedChains", name := "parted", desc := "()I" } : Jvm.MethodName) ∈ gtb := gt_of (tm4 125 rfl) rfl
theorem w4_126 : Jvm.Cond.selects "MarkedChains" ({ cls := "MarkedChains", name := "parted", desc := "()I" } : Jvm.MethodName) ({ cls := "MarkedChains", name := "parted", desc := "()I" } : Jvm.MethodName) ∈ gtb := gt_of (tm4 126 rfl) rfl
theorem w4_127 : Jvm.Cond.code ({ cls := "MarkedChains", name := "parted", desc := "()I" } : Jvm.MethodName) prog_1_method_35_code (5 : Nat) (Option.some Jvm.ClassFile.FieldType.int) ∈ gtb := gt_of (tm4 127 rfl) rfl
theorem w4_128 : Jvm.Cond.methodLink "MarkedChains" (285 : Nat) ({ cls := "java/lang/Math", name := "min", desc := "(II)I" } : Jvm.MethodName) ∈ gtb := gt_of (tm4 128 rfl) rfl
theorem w4_129 : Jvm.Cond.methodLink "MarkedChains" (290 : Nat) ({ cls := "MarkedChains", name := "partsWith", desc := "(III)Z" } : Jvm.MethodName) ∈ gtb := gt_of (tm4 129 rfl) rfl
theorem w4_131 : Jvm.Cond.instanceMethod ({ cls := "MarkedChains", name := "partsWith", desc := "(III)Z" } : Jvm.MethodName) ∈ gtb := gt_of (tm4 131 rfl) rfl
theorem w4_132 : Jvm.Cond.code ({ cls := "MarkedChains", name := "partsWith", desc := "(III)Z" } : Jvm.MethodName) prog_1_method_36_code (4 : Nat) (Option.some Jvm.ClassFile.FieldType.boolean) ∈ gtb := gt_of (tm4 132 rfl) rfl
theorem w4_133 : Jvm.Cond.methodLink "MarkedChainsLaw" (135 : Nat) ({ cls := "MarkedChains", name := "slack", desc := "(III)I" } : Jvm.MethodName) ∈ gtb := gt_of (tm4 133 rfl) rfl
theorem w4_134 : Jvm.Cond.instanceMethod ({ cls := "MarkedChains", name := "slack", desc := "(III)I" } : Jvm.MethodName) ∈ gtb := gt_of (tm4 134 rfl) rfl
theorem w4_135 : Jvm.Cond.selects "MarkedChains" ({ cls := "MarkedChains", name := "slack", desc := "(III)I" } : Jvm.MethodName) ({ cls := "MarkedChains", name := "slack", desc := "(III)I" } : Jvm.MethodName) ∈ gtb := gt_of (tm4 135 rfl) rfl
theorem w4_136 : Jvm.Cond.code ({ cls := "MarkedChains", name := "slack", desc := "(III)I" } : Jvm.MethodName) prog_1_method_37_code (6 : Nat) (Option.some Jvm.ClassFile.FieldType.int) ∈ gtb := gt_of (tm4 136 rfl) rfl
theorem w4_137 : Jvm.Cond.methodLink "MarkedChains" (301 : Nat) ({ cls := "MarkedChains", name := "changesDecisions", desc := "(II)Z" } : Jvm.MethodName) ∈ gtb := gt_of (tm4 137 rfl) rfl
theorem w4_139 : Jvm.Cond.instanceMethod ({ cls := "MarkedChains", name := "changesDecisions", desc := "(II)Z" } : Jvm.MethodName) ∈ gtb := gt_of (tm4 139 rfl) rfl
theorem w4_140 : Jvm.Cond.code ({ cls := "MarkedChains", name := "changesDecisions", desc := "(II)Z" } : Jvm.MethodName) prog_1_method_40_code (4 : Nat) (Option.some Jvm.ClassFile.FieldType.boolean) ∈ gtb := gt_of (tm4 140 rfl) rfl
theorem w4_141 : Jvm.Cond.methodLink "MarkedChainsLaw" (139 : Nat) ({ cls := "MarkedChains", name := "crucial", desc := "(II)I" } : Jvm.MethodName) ∈ gtb := gt_of (tm4 141 rfl) rfl
theorem w4_142 : Jvm.Cond.instanceMethod ({ cls := "MarkedChains", name := "crucial", desc := "(II)I" } : Jvm.MethodName) ∈ gtb := gt_of (tm4 142 rfl) rfl
theorem w4_143 : Jvm.Cond.selects "MarkedChains" ({ cls := "MarkedChains", name := "crucial", desc := "(II)I" } : Jvm.MethodName) ({ cls := "MarkedChains", name := "crucial", desc := "(II)I" } : Jvm.MethodName) ∈ gtb := gt_of (tm4 143 rfl) rfl
theorem w4_144 : Jvm.Cond.code ({ cls := "MarkedChains", name := "crucial", desc := "(II)I" } : Jvm.MethodName) prog_1_method_38_code (5 : Nat) (Option.some Jvm.ClassFile.FieldType.int) ∈ gtb := gt_of (tm4 144 rfl) rfl
theorem w4_145 : Jvm.Cond.methodLink "MarkedChains" (304 : Nat) ({ cls := "MarkedChains", name := "isCrucial", desc := "(III)Z" } : Jvm.MethodName) ∈ gtb := gt_of (tm4 145 rfl) rfl
theorem w4_147 : Jvm.Cond.instanceMethod ({ cls := "MarkedChains", name := "isCrucial", desc := "(III)Z" } : Jvm.MethodName) ∈ gtb := gt_of (tm4 147 rfl) rfl
theorem w4_148 : Jvm.Cond.code ({ cls := "MarkedChains", name := "isCrucial", desc := "(III)Z" } : Jvm.MethodName) prog_1_method_39_code (5 : Nat) (Option.some Jvm.ClassFile.FieldType.boolean) ∈ gtb := gt_of (tm4 148 rfl) rfl
theorem w4_149 : Jvm.Cond.methodLink "MarkedChains" (307 : Nat) ({ cls := "MarkedChains$Run", name := "anyComes", desc := "(I)Z" } : Jvm.MethodName) ∈ gtb := gt_of (tm4 149 rfl) rfl
theorem w4_150 : Jvm.Cond.instanceMethod ({ cls := "MarkedChains$Run", name := "anyComes", desc := "(I)Z" } : Jvm.MethodName) ∈ gtb := gt_of (tm4 150 rfl) rfl
theorem w4_151 : Jvm.Cond.selects "MarkedChains$Run" ({ cls := "MarkedChains$Run", name := "anyComes", desc := "(I)Z" } : Jvm.MethodName) ({ cls := "MarkedChains$Run", name := "anyComes", desc := "(I)Z" } : Jvm.MethodName) ∈ gtb := gt_of (tm4 151 rfl) rfl
theorem w4_152 : Jvm.Cond.code ({ cls := "MarkedChains$Run", name := "anyComes", desc := "(I)Z" } : Jvm.MethodName) prog_5_method_25_code (3 : Nat) (Option.some Jvm.ClassFile.FieldType.boolean) ∈ gtb := gt_of (tm4 152 rfl) rfl
theorem w4_153 : Jvm.Cond.methodLink "MarkedChainsLaw" (143 : Nat) ({ cls := "MarkedChains", name := "least", desc := "()I" } : Jvm.MethodName) ∈ gtb := gt_of (tm4 153 rfl) rfl
theorem w4_154 : Jvm.Cond.instanceMethod ({ cls := "MarkedChains", name := "least", desc := "()I" } : Jvm.MethodName) ∈ gtb := gt_of (tm4 154 rfl) rfl
theorem w4_155 : Jvm.Cond.selects "MarkedChains" ({ cls := "MarkedChains", name := "least", desc := "()I" } : Jvm.MethodName) ({ cls := "MarkedChains", name := "least", desc := "()I" } : Jvm.MethodName) ∈ gtb := gt_of (tm4 155 rfl) rfl
theorem w4_156 : Jvm.Cond.code ({ cls := "MarkedChains", name := "least", desc := "()I" } : Jvm.MethodName) prog_1_method_41_code (3 : Nat) (Option.some Jvm.ClassFile.FieldType.int) ∈ gtb := gt_of (tm4 156 rfl) rfl
theorem w4_157 : Jvm.Cond.methodLink "MarkedChainsLaw" (171 : Nat) ({ cls := "MarkedChains", name := "heal", desc := "()I" } : Jvm.MethodName) ∈ gtb := gt_of (tm4 157 rfl) rfl
theorem w4_158 : Jvm.Cond.instanceMethod ({ cls := "MarkedChains", name := "heal", desc := "()I" } : Jvm.MethodName) ∈ gtb := gt_of (tm4 158 rfl) rfl
theorem w4_159 : Jvm.Cond.selects "MarkedChains" ({ cls := "MarkedChains", name := "heal", desc := "()I" } : Jvm.MethodName) ({ cls := "MarkedChains", name := "heal", desc := "()I" } : Jvm.MethodName) ∈ gtb := gt_of (tm4 159 rfl) rfl
theorem w4_160 : Jvm.Cond.code ({ cls := "MarkedChains", name := "heal", desc := "()I" } : Jvm.MethodName) prog_1_method_42_code (4 : Nat) (Option.some Jvm.ClassFile.FieldType.int) ∈ gtb := gt_of (tm4 160 rfl) rfl
theorem w4_161 : Jvm.Cond.methodLink "MarkedChains" (316 : Nat) ({ cls := "MarkedChains", name := "healsWithout", desc := "(I)Z" } : Jvm.MethodName) ∈ gtb := gt_of (tm4 161 rfl) rfl
theorem w4_163 : Jvm.Cond.instanceMethod ({ cls := "MarkedChains", name := "healsWithout", desc := "(I)Z" } : Jvm.MethodName) ∈ gtb := gt_of (tm4 163 rfl) rfl
theorem w4_164 : Jvm.Cond.code ({ cls := "MarkedChains", name := "healsWithout", desc := "(I)Z" } : Jvm.MethodName) prog_1_method_43_code (2 : Nat) (Option.some Jvm.ClassFile.FieldType.boolean) ∈ gtb := gt_of (tm4 164 rfl) rfl
theorem w4_165 : Jvm.Cond.methodLink "MarkedChainsLaw" (175 : Nat) ({ cls := "MarkedChains", name := "count", desc := "(I)I" } : Jvm.MethodName) ∈ gtb := gt_of (tm4 165 rfl) rfl
theorem w4_166 : Jvm.Cond.instanceMethod ({ cls := "MarkedChains", name := "count", desc := "(I)I" } : Jvm.MethodName) ∈ gtb := gt_of (tm4 166 rfl) rfl
theorem w4_167 : Jvm.Cond.selects "MarkedChains" ({ cls := "MarkedChains", name := "count", desc := "(I)I" } : Jvm.MethodName) ({ cls := "MarkedChains", name := "count", desc := "(I)I" } : Jvm.MethodName) ∈ gtb := gt_of (tm4 167 rfl) rfl
theorem w4_168 : Jvm.Cond.code ({ cls := "MarkedChains", name := "count", desc := "(I)I" } : Jvm.MethodName) prog_1_method_44_code (2 : Nat) (Option.some Jvm.ClassFile.FieldType.int) ∈ gtb := gt_of (tm4 168 rfl) rfl
theorem w4_169 : Jvm.Cond.methodLink "MarkedChains" (319 : Nat) ({ cls := "MarkedChains$Run", name := "shortLetters", desc := "()I" } : Jvm.MethodName) ∈ gtb := gt_of (tm4 169 rfl) rfl
theorem w4_170 : Jvm.Cond.instanceMethod ({ cls := "MarkedChains$Run", name := "shortLetters", desc := "()I" } : Jvm.MethodName) ∈ gtb := gt_of (tm4 170 rfl) rfl
theorem w4_171 : Jvm.Cond.selects "MarkedChains$Run" ({ cls := "MarkedChains$Run", name := "shortLetters", desc := "()I" } : Jvm.MethodName) ({ cls := "MarkedChains$Run", name := "shortLetters", desc := "()I" } : Jvm.MethodName) ∈ gtb := gt_of (tm4 171 rfl) rfl
theorem w4_172 : Jvm.Cond.code ({ cls := "MarkedChains$Run", name := "shortLetters", desc := "()I" } : Jvm.MethodName) prog_5_method_32_code (4 : Nat) (Option.some Jvm.ClassFile.FieldType.int) ∈ gtb := gt_of (tm4 172 rfl) rfl
theorem w4_173 : Jvm.Cond.methodLink "MarkedChainsLaw" (179 : Nat) ({ cls := "MarkedChains", name := "planned", desc := "(II)I" } : Jvm.MethodName) ∈ gtb := gt_of (tm4 173 rfl) rfl
theorem w4_174 : Jvm.Cond.instanceMethod ({ cls := "MarkedChains", name := "planned", desc := "(II)I" } : Jvm.MethodName) ∈ gtb := gt_of (tm4 174 rfl) rfl
theorem w4_175 : Jvm.Cond.selects "MarkedChains" ({ cls := "MarkedChains", name := "planned", desc := "(II)I" } : Jvm.MethodName) ({ cls := "MarkedChains", name := "planned", desc := "(II)I" } : Jvm.MethodName) ∈ gtb := gt_of (tm4 175 rfl) rfl
theorem w4_176 : Jvm.Cond.code ({ cls := "MarkedChains", name := "planned", desc := "(II)I" } : Jvm.MethodName) prog_1_method_45_code (3 : Nat) (Option.some Jvm.ClassFile.FieldType.int) ∈ gtb := gt_of (tm4 176 rfl) rfl
theorem w4_177 : Jvm.Cond.methodLink "MarkedChains" (331 : Nat) ({ cls := "MarkedChains$Chain", name := "digits", desc := "(I)I" } : Jvm.MethodName) ∈ gtb := gt_of (tm4 177 rfl) rfl
theorem w4_178 : Jvm.Cond.static ({ cls := "MarkedChains$Chain", name := "digits", desc := "(I)I" } : Jvm.MethodName) ∈ gtb := gt_of (tm4 178 rfl) rfl
theorem w4_179 : Jvm.Cond.code ({ cls := "MarkedChains$Chain", name := "digits", desc := "(I)I" } : Jvm.MethodName) prog_2_method_8_code (3 : Nat) (Option.some Jvm.ClassFile.FieldType.int) ∈ gtb := gt_of (tm4 179 rfl) rfl
theorem w4_180 : Jvm.Cond.methodLink "MarkedChainsLaw" (183 : Nat) ({ cls := "MarkedChains", name := "fault", desc := "(III)I" } : Jvm.MethodName) ∈ gtb := gt_of (tm4 180 rfl) rfl
theorem w4_181 : Jvm.Cond.instanceMethod ({ cls := "MarkedChains", name := "fault", desc := "(III)I" } : Jvm.MethodName) ∈ gtb := gt_of (tm4 181 rfl) rfl
theorem w4_182 : Jvm.Cond.selects "MarkedChains" ({ cls := "MarkedChains", name := "fault", desc := "(III)I" } : Jvm.MethodName) ({ cls := "MarkedChains", name := "fault", desc := "(III)I" } : Jvm.MethodName) ∈ gtb := gt_of (tm4 182 rfl) rfl
theorem w4_183 : Jvm.Cond.code ({ cls := "MarkedChains", name := "fault", desc := "(III)I" } : Jvm.MethodName) prog_1_method_46_code (5 : Nat) (Option.some Jvm.ClassFile.FieldType.int) ∈ gtb := gt_of (tm4 183 rfl) rfl
theorem w4_184 : Jvm.Cond.classLink "MarkedChainsLaw" (10 : Nat) "MarkedChainsModel" ∈ gtb := gt_of (tm4 184 rfl) rfl
theorem w4_185 : Jvm.Cond.instantiable "MarkedChainsModel" (32 : Nat) ∈ gtb := gt_of (tm4 185 rfl) rfl
theorem w4_186 : Jvm.Cond.methodLink "MarkedChainsLaw" (12 : Nat) ({ cls := "MarkedChainsModel", name := "<init>", desc := "()V" } : Jvm.MethodName) ∈ gtb := gt_of (tm4 186 rfl) rfl
theorem w4_187 : Jvm.Cond.instanceMethod ({ cls := "MarkedChainsModel", name := "<init>", desc := "()V" } : Jvm.MethodName) ∈ gtb := gt_of (tm4 187 rfl) rfl
theorem w4_188 : Jvm.Cond.code ({ cls := "MarkedChainsModel", name := "<init>", desc := "()V" } : Jvm.MethodName) prog_8_method_1_code (1 : Nat) (Option.none : Option Jvm.ClassFile.FieldType) ∈ gtb := gt_of (tm4 188 rfl) rfl
theorem w4_189 : Jvm.Cond.methodLink "MarkedChainsModel" (1 : Nat) ({ cls := "java/lang/Object", name := "<init>", desc := "()V" } : Jvm.MethodName) ∈ gtb := gt_of (tm4 189 rfl) rfl
theorem w4_190 : Jvm.Cond.methodLink "MarkedChainsModel" (76 : Nat) ({ cls := "MarkedChainsModel", name := "begins", desc := "([I)V" } : Jvm.MethodName) ∈ gtb := gt_of (tm4 190 rfl) rfl
theorem w4_191 : Jvm.Cond.static ({ cls := "MarkedChainsModel", name := "begins", desc := "([I)V" } : Jvm.MethodName) ∈ gtb := gt_of (tm4 191 rfl) rfl
theorem w4_192 : Jvm.Cond.code ({ cls := "MarkedChainsModel", name := "begins", desc := "([I)V" } : Jvm.MethodName) prog_8_method_2_code (2 : Nat) (Option.none : Option Jvm.ClassFile.FieldType) ∈ gtb := gt_of (tm4 192 rfl) rfl
theorem w4_193 : Jvm.Cond.fieldLink "MarkedChainsModel" (9 : Nat) "MarkedChainsModel" "now" "[I" ∈ gtb := gt_of (tm4 193 rfl) rfl
theorem w4_194 : Jvm.Cond.fieldLink "MarkedChainsModel" (13 : Nat) "MarkedChainsModel" "heard" "[I" ∈ gtb := gt_of (tm4 194 rfl) rfl
theorem w4_195 : Jvm.Cond.fieldLink "MarkedChainsModel" (16 : Nat) "MarkedChainsModel" "aside" "[I" ∈ gtb := gt_of (tm4 195 rfl) rfl
theorem w4_196 : Jvm.Cond.fieldLink "MarkedChainsModel" (19 : Nat) "MarkedChainsModel" "past" "[I" ∈ gtb := gt_of (tm4 196 rfl) rfl
theorem w4_197 : Jvm.Cond.fieldLink "MarkedChainsModel" (22 : Nat) "MarkedChainsModel" "shelf" "[I" ∈ gtb := gt_of (tm4 197 rfl) rfl
theorem w4_198 : Jvm.Cond.fieldLink "MarkedChainsModel" (25 : Nat) "MarkedChainsModel" "isKept" "[Z" ∈ gtb := gt_of (tm4 198 rfl) rfl
theorem w4_199 : Jvm.Cond.fieldLink "MarkedChainsModel" (194 : Nat) "MarkedChainsModel" "pastMany" "I" ∈ gtb := gt_of (tm4 199 rfl) rfl
theorem w4_200 : Jvm.Cond.fieldLink "MarkedChainsModel" (29 : Nat) "MarkedChainsModel" "tape" "[B" ∈ gtb := gt_of (tm4 200 rfl) rfl
theorem w4_201 : Jvm.Cond.fieldLink "MarkedChainsModel" (80 : Nat) "MarkedChainsModel" "taped" "I" ∈ gtb := gt_of (tm4 201 rfl) rfl
theorem w4_202 : Jvm.Cond.fieldLink "MarkedChainsModel" (87 : Nat) "MarkedChainsModel" "at" "I" ∈ gtb := gt_of (tm4 202 rfl) rfl
theorem w4_203 : Jvm.Cond.fieldLink "MarkedChainsModel" (94 : Nat) "MarkedChainsModel" "fault" "I" ∈ gtb := gt_of (tm4 203 rfl) rfl
theorem w4_204 : Jvm.Cond.fieldLink "MarkedChainsModel" (132 : Nat) "MarkedChainsModel" "numberAt" "I" ∈ gtb := gt_of (tm4 204 rfl) rfl
theorem w4_205 : Jvm.Cond.fieldLink "MarkedChainsModel" (33 : Nat) "MarkedChainsModel" "told" "[I" ∈ gtb := gt_of (tm4 205 rfl) rfl
theorem w4_206 : Jvm.Cond.fieldLink "MarkedChainsModel" (36 : Nat) "MarkedChainsModel" "round" "[I" ∈ gtb := gt_of (tm4 206 rfl) rfl
theorem w4_207 : Jvm.Cond.fieldLink "MarkedChainsModel" (39 : Nat) "MarkedChainsModel" "from" "[I" ∈ gtb := gt_of (tm4 207 rfl) rfl
theorem w4_208 : Jvm.Cond.fieldLink "MarkedChainsModel" (42 : Nat) "MarkedChainsModel" "to" "[I" ∈ gtb := gt_of (tm4 208 rfl) rfl
theorem w4_209 : Jvm.Cond.fieldLink "MarkedChainsModel" (45 : Nat) "MarkedChainsModel" "value" "[I" ∈ gtb := gt_of (tm4 209 rfl) rfl
theorem w4_210 : Jvm.Cond.fieldLink "MarkedChainsModel" (48 : Nat) "MarkedChainsModel" "many" "[I" ∈ gtb := gt_of (tm4 210 rfl) rfl
theorem w4_211 : Jvm.Cond.fieldLink "MarkedChainsModel" (51 : Nat) "MarkedChainsModel" "comes" "[I" ∈ gtb := gt_of (tm4 211 rfl) rfl
theorem w4_212 : Jvm.Cond.fieldLink "MarkedChainsModel" (54 : Nat) "MarkedChainsModel" "counts" "[I" ∈ gtb := gt_of (tm4 212 rfl) rfl
theorem w4_213 : Jvm.Cond.fieldLink "MarkedChainsModel" (57 : Nat) "MarkedChainsModel" "mark" "[I" ∈ gtb := gt_of (tm4 213 rfl) rfl
theorem w4_214 : Jvm.Cond.fieldLink "MarkedChainsModel" (264 : Nat) "MarkedChainsModel" "sent" "I" ∈ gtb := gt_of (tm4 214 rfl) rfl
theorem w4_215 : Jvm.Cond.fieldLink "MarkedChainsModel" (60 : Nat) "MarkedChainsModel" "extracted" "[I" ∈ gtb := gt_of (tm4 215 rfl) rfl
theorem w4_216 : Jvm.Cond.fieldLink "MarkedChainsModel" (63 : Nat) "MarkedChainsModel" "by" "[I" ∈ gtb := gt_of (tm4 216 rfl) rfl
theorem w4_217 : Jvm.Cond.fieldLink "MarkedChainsModel" (66 : Nat) "MarkedChainsModel" "usable" "[I" ∈ gtb := gt_of (tm4 217 rfl) rfl
theorem w4_218 : Jvm.Cond.fieldLink "MarkedChainsModel" (294 : Nat) "MarkedChainsModel" "forgedSet" "I" ∈ gtb := gt_of (tm4 218 rfl) rfl
theorem w4_219 : Jvm.Cond.fieldLink "MarkedChainsModel" (297 : Nat) "MarkedChainsModel" "otherSet" "I" ∈ gtb := gt_of (tm4 219 rfl) rfl
theorem w4_220 : Jvm.Cond.fieldLink "MarkedChainsModel" (69 : Nat) "MarkedChainsModel" "was" "[I" ∈ gtb := gt_of (tm4 220 rfl) rfl
theorem w4_221 : Jvm.Cond.fieldLink "MarkedChainsModel" (72 : Nat) "MarkedChainsModel" "extraRound" "I" ∈ gtb := gt_of (tm4 221 rfl) rfl
theorem w4_222 : Jvm.Cond.fieldLink "MarkedChainsModel" (267 : Nat) "MarkedChainsModel" "extraFrom" "I" ∈ gtb := gt_of (tm4 222 rfl) rfl
theorem w4_223 : Jvm.Cond.fieldLink "MarkedChainsModel" (270 : Nat) "MarkedChainsModel" "extraTo" "I" ∈ gtb := gt_of (tm4 223 rfl) rfl
theorem w4_224 : Jvm.Cond.fieldLink "MarkedChainsModel" (273 : Nat) "MarkedChainsModel" "extraBy" "I" ∈ gtb := gt_of (tm4 224 rfl) rfl
theorem w4_225 : Jvm.Cond.laysFinal "MarkedChainsModel" "MarkedChainsModel" "now" "[I" ∈ gtb := gt_of (tm4 225 rfl) rfl
theorem w4_227 : Jvm.Cond.laysFinal "MarkedChainsModel" "MarkedChainsModel" "heard" "[I" ∈ gtb := gt_of (tm4 227 rfl) rfl
theorem w4_229 : Jvm.Cond.laysFinal "MarkedChainsModel" "MarkedChainsModel" "aside" "[I" ∈ gtb := gt_of (tm4 229 rfl) rfl
theorem w4_231 : Jvm.Cond.laysFinal "MarkedChainsModel" "MarkedChainsModel" "past" "[I" ∈ gtb := gt_of (tm4 231 rfl) rfl
theorem w4_233 : Jvm.Cond.laysFinal "MarkedChainsModel" "MarkedChainsModel" "shelf" "[I" ∈ gtb := gt_of (tm4 233 rfl) rfl
theorem w4_235 : Jvm.Cond.laysFinal "MarkedChainsModel" "MarkedChainsModel" "isKept" "[Z" ∈ gtb := gt_of (tm4 235 rfl) rfl
theorem w4_237 : Jvm.Cond.lays "MarkedChainsModel" "MarkedChainsModel" "pastMany" "I" ∈ gtb := gt_of (tm4 237 rfl) rfl
theorem w4_239 : Jvm.Cond.laysFinal "MarkedChainsModel" "MarkedChainsModel" "tape" "[B" ∈ gtb := gt_of (tm4 239 rfl) rfl
theorem w5_1 : Jvm.Cond.lays "MarkedChainsModel" "MarkedChainsModel" "taped" "I" ∈ gtb := gt_of (tm5 1 rfl) rfl
theorem w5_3 : Jvm.Cond.lays "MarkedChainsModel" "MarkedChainsModel" "at" "I" ∈ gtb := gt_of (tm5 3 rfl) rfl
theorem w5_5 : Jvm.Cond.lays "MarkedChainsModel" "MarkedChainsModel" "fault" "I" ∈ gtb := gt_of (tm5 5 rfl) rfl
theorem w5_7 : Jvm.Cond.lays "MarkedChainsModel" "MarkedChainsModel" "numberAt" "I" ∈ gtb := gt_of (tm5 7 rfl) rfl
theorem w5_9 : Jvm.Cond.laysFinal "MarkedChainsModel" "MarkedChainsModel" "told" "[I" ∈ gtb := gt_of (tm5 9 rfl) rfl
theorem w5_11 : Jvm.Cond.laysFinal "MarkedChainsModel" "MarkedChainsModel" "round" "[I" ∈ gtb := gt_of (tm5 11 rfl) rfl
theorem w5_13 : Jvm.Cond.laysFinal "MarkedChainsModel" "MarkedChainsModel" "from" "[I" ∈ gtb := gt_of (tm5 13 rfl) rfl
theorem w5_15 : Jvm.Cond.laysFinal "MarkedChainsModel" "MarkedChainsModel" "to" "[I" ∈ gtb := gt_of (tm5 15 rfl) rfl
theorem w5_17 : Jvm.Cond.laysFinal "MarkedChainsModel" "MarkedChainsModel" "value" "[I" ∈ gtb := gt_of (tm5 17 rfl) rfl
theorem w5_19 : Jvm.Cond.laysFinal "MarkedChainsModel" "MarkedChainsModel" "many" "[I" ∈ gtb := gt_of (tm5 19 rfl) rfl
theorem w5_21 : Jvm.Cond.laysFinal "MarkedChainsModel" "MarkedChainsModel" "comes" "[I" ∈ gtb := gt_of (tm5 21 rfl) rfl
theorem w5_23 : Jvm.Cond.laysFinal "MarkedChainsModel" "MarkedChainsModel" "counts" "[I" ∈ gtb := gt_of (tm5 23 rfl) rfl
theorem w5_25 : Jvm.Cond.laysFinal "MarkedChainsModel" "MarkedChainsModel" "mark" "[I" ∈ gtb := gt_of (tm5 25 rfl) rfl
theorem w5_27 : Jvm.Cond.lays "MarkedChainsModel" "MarkedChainsModel" "sent" "I" ∈ gtb := gt_of (tm5 27 rfl) rfl
theorem w5_29 : Jvm.Cond.laysFinal "MarkedChainsModel" "MarkedChainsModel" "extracted" "[I" ∈ gtb := gt_of (tm5 29 rfl) rfl
theorem w5_31 : Jvm.Cond.laysFinal "MarkedChainsModel" "MarkedChainsModel" "by" "[I" ∈ gtb := gt_of (tm5 31 rfl) rfl
theorem w5_33 : Jvm.Cond.laysFinal "MarkedChainsModel" "MarkedChainsModel" "usable" "[I" ∈ gtb := gt_of (tm5 33 rfl) rfl
theorem w5_35 : Jvm.Cond.lays "MarkedChainsModel" "MarkedChainsModel" "forgedSet" "I" ∈ gtb := gt_of (tm5 35 rfl) rfl
theorem w5_37 : Jvm.Cond.lays "MarkedChainsModel" "MarkedChainsModel" "otherSet" "I" ∈ gtb := gt_of (tm5 37 rfl) rfl
theorem w5_39 : Jvm.Cond.laysFinal "MarkedChainsModel" "MarkedChainsModel" "was" "[I" ∈ gtb := gt_of (tm5 39 rfl) rfl
theorem w5_41 : Jvm.Cond.lays "MarkedChainsModel" "MarkedChainsModel" "extraRound" "I" ∈ gtb := gt_of (tm5 41 rfl) rfl
theorem w5_43 : Jvm.Cond.lays "MarkedChainsModel" "MarkedChainsModel" "extraFrom" "I" ∈ gtb := gt_of (tm5 43 rfl) rfl
theorem w5_45 : Jvm.Cond.lays "MarkedChainsModel" "MarkedChainsModel" "extraTo" "I" ∈ gtb := gt_of (tm5 45 rfl) rfl
theorem w5_47 : Jvm.Cond.lays "MarkedChainsModel" "MarkedChainsModel" "extraBy" "I" ∈ gtb := gt_of (tm5 47 rfl) rfl
theorem w5_50 : Jvm.Cond.arrayClass Jvm.ClassFile.FieldType.boolean ∈ gtb := gt_of (tm5 50 rfl) rfl
theorem w5_51 : Jvm.Cond.methodLink "MarkedChainsLaw" (17 : Nat) ({ cls := "MarkedChainsModel", name := "feed", desc := "(IIIII)I" } : Jvm.MethodName) ∈ gtb := gt_of (tm5 51 rfl) rfl
theorem w5_52 : Jvm.Cond.instanceMethod ({ cls := "MarkedChainsModel", name := "feed", desc := "(IIIII)I" } : Jvm.MethodName) ∈ gtb := gt_of (tm5 52 rfl) rfl
theorem w5_53 : Jvm.Cond.selects "MarkedChainsModel" ({ cls := "MarkedChainsModel", name := "feed", desc := "(IIIII)I" } : Jvm.MethodName) ({ cls := "MarkedChainsModel", name := "feed", desc := "(IIIII)I" } : Jvm.MethodName) ∈ gtb := gt_of (tm5 53 rfl) rfl
theorem w5_54 : Jvm.Cond.code ({ cls := "MarkedChainsModel", name := "feed", desc := "(IIIII)I" } : Jvm.MethodName) prog_8_method_7_code (6 : Nat) (Option.some Jvm.ClassFile.FieldType.int) ∈ gtb := gt_of (tm5 54 rfl) rfl
theorem w5_55 : Jvm.Cond.methodLink "MarkedChainsModel" (83 : Nat) ({ cls := "MarkedChainsModel", name := "puts", desc := "(I)V" } : Jvm.MethodName) ∈ gtb := gt_of (tm5 55 rfl) rfl
theorem w5_57 : Jvm.Cond.instanceMethod ({ cls := "MarkedChainsModel", name := "puts", desc := "(I)V" } : Jvm.MethodName) ∈ gtb := gt_of (tm5 57 rfl) rfl
theorem w5_58 : Jvm.Cond.code ({ cls := "MarkedChainsModel", name := "puts", desc := "(I)V" } : Jvm.MethodName) prog_8_method_8_code (3 : Nat) (Option.none : Option Jvm.ClassFile.FieldType) ∈ gtb := gt_of (tm5 58 rfl) rfl
theorem w5_59 : Jvm.Cond.methodLink "MarkedChainsLaw" (22 : Nat) ({ cls := "MarkedChainsModel", name := "end", desc := "(I)I" } : Jvm.MethodName) ∈ gtb := gt_of (tm5 59 rfl) rfl
theorem w5_60 : Jvm.Cond.instanceMethod ({ cls := "MarkedChainsModel", name := "end", desc := "(I)I" } : Jvm.MethodName) ∈ gtb := gt_of (tm5 60 rfl) rfl
theorem w5_61 : Jvm.Cond.selects "MarkedChainsModel" ({ cls := "MarkedChainsModel", name := "end", desc := "(I)I" } : Jvm.MethodName) ({ cls := "MarkedChainsModel", name := "end", desc := "(I)I" } : Jvm.MethodName) ∈ gtb := gt_of (tm5 61 rfl) rfl
theorem w5_62 : Jvm.Cond.code ({ cls := "MarkedChainsModel", name := "end", desc := "(I)I" } : Jvm.MethodName) prog_8_method_9_code (2 : Nat) (Option.some Jvm.ClassFile.FieldType.int) ∈ gtb := gt_of (tm5 62 rfl) rfl
theorem w5_63 : Jvm.Cond.methodLink "MarkedChainsLaw" (27 : Nat) ({ cls := "MarkedChainsModel", name := "tell", desc := "()I" } : Jvm.MethodName) ∈ gtb := gt_of (tm5 63 rfl) rfl
theorem w5_64 : Jvm.Cond.instanceMethod ({ cls := "MarkedChainsModel", name := "tell", desc := "()I" } : Jvm.MethodName) ∈ gtb := gt_of (tm5 64 rfl) rfl
theorem w5_65 : Jvm.Cond.selects "MarkedChainsModel" ({ cls := "MarkedChainsModel", name := "tell", desc := "()I" } : Jvm.MethodName) ({ cls := "MarkedChainsModel", name := "tell", desc := "()I" } : Jvm.MethodName) ∈ gtb := gt_of (tm5 65 rfl) rfl
theorem w5_66 : Jvm.Cond.code ({ cls := "MarkedChainsModel", name := "tell", desc := "()I" } : Jvm.MethodName) prog_8_method_23_code (1 : Nat) (Option.some Jvm.ClassFile.FieldType.int) ∈ gtb := gt_of (tm5 66 rfl) rfl
theorem w5_68 : Jvm.Cond.methodLink "MarkedChainsModel" (156 : Nat) ({ cls := "MarkedChainsModel", name := "takes", desc := "(Ljava/lang/String;)Z" } : Jvm.MethodName) ∈ gtb := gt_of (tm5 68 rfl) rfl
theorem w5_70 : Jvm.Cond.instanceMethod ({ cls := "MarkedChainsModel", name := "takes", desc := "(Ljava/lang/String;)Z" } : Jvm.MethodName) ∈ gtb := gt_of (tm5 70 rfl) rfl
theorem w5_71 : Jvm.Cond.code ({ cls := "MarkedChainsModel", name := "takes", desc := "(Ljava/lang/String;)Z" } : Jvm.MethodName) prog_8_method_14_code (5 : Nat) (Option.some Jvm.ClassFile.FieldType.boolean) ∈ gtb := gt_of (tm5 71 rfl) rfl
theorem w5_72 : Jvm.Cond.methodLink "MarkedChainsModel" (101 : Nat) ({ cls := "MarkedChainsModel", name := "next", desc := "()I" } : Jvm.MethodName) ∈ gtb := gt_of (tm5 72 rfl) rfl
theorem w5_74 : Jvm.Cond.instanceMethod ({ cls := "MarkedChainsModel", name := "next", desc := "()I" } : Jvm.MethodName) ∈ gtb := gt_of (tm5 74 rfl) rfl
theorem w5_75 : Jvm.Cond.code ({ cls := "MarkedChainsModel", name := "next", desc := "()I" } : Jvm.MethodName) prog_8_method_11_code (1 : Nat) (Option.some Jvm.ClassFile.FieldType.int) ∈ gtb := gt_of (tm5 75 rfl) rfl
theorem w5_76 : Jvm.Cond.methodLink "MarkedChainsModel" (90 : Nat) ({ cls := "MarkedChainsModel", name := "sign", desc := "()I" } : Jvm.MethodName) ∈ gtb := gt_of (tm5 76 rfl) rfl
theorem w5_78 : Jvm.Cond.instanceMethod ({ cls := "MarkedChainsModel", name := "sign", desc := "()I" } : Jvm.MethodName) ∈ gtb := gt_of (tm5 78 rfl) rfl
theorem w5_79 : Jvm.Cond.code ({ cls := "MarkedChainsModel", name := "sign", desc := "()I" } : Jvm.MethodName) prog_8_method_10_code (1 : Nat) (Option.some Jvm.ClassFile.FieldType.int) ∈ gtb := gt_of (tm5 79 rfl) rfl
theorem w5_80 : Jvm.Cond.constantLong "MarkedChainsModel" (104 : Nat) (97 : Int64) ∈ gtb := gt_of (tm5 80 rfl) rfl
theorem w5_81 : Jvm.Cond.constantLong "MarkedChainsModel" (106 : Nat) (122 : Int64) ∈ gtb := gt_of (tm5 81 rfl) rfl
theorem w5_82 : Jvm.Cond.methodLink "MarkedChainsModel" (108 : Nat) ({ cls := "MarkedChainsModel", name := "in", desc := "(JJJ)Z" } : Jvm.MethodName) ∈ gtb := gt_of (tm5 82 rfl) rfl
theorem w5_83 : Jvm.Cond.static ({ cls := "MarkedChainsModel", name := "in", desc := "(JJJ)Z" } : Jvm.MethodName) ∈ gtb := gt_of (tm5 83 rfl) rfl
theorem w5_84 : Jvm.Cond.code ({ cls := "MarkedChainsModel", name := "in", desc := "(JJJ)Z" } : Jvm.MethodName) prog_8_method_3_code (6 : Nat) (Option.some Jvm.ClassFile.FieldType.boolean) ∈ gtb := gt_of (tm5 84 rfl) rfl
theorem w5_85 : Jvm.Cond.methodLink "MarkedChainsModel" (112 : Nat) ({ cls := "java/lang/String", name := "length", desc := "()I" } : Jvm.MethodName) ∈ gtb := gt_of (tm5 85 rfl) rfl
theorem w5_86 : Jvm.Cond.methodLink "MarkedChainsModel" (117 : Nat) ({ cls := "java/lang/String", name := "charAt", desc := "(I)C" } : Jvm.MethodName) ∈ gtb := gt_of (tm5 86 rfl) rfl
theorem w5_87 : Jvm.Cond.methodLink "MarkedChainsModel" (128 : Nat) ({ cls := "MarkedChainsModel", name := "fails", desc := "(II)V" } : Jvm.MethodName) ∈ gtb := gt_of (tm5 87 rfl) rfl
theorem w5_89 : Jvm.Cond.instanceMethod ({ cls := "MarkedChainsModel", name := "fails", desc := "(II)V" } : Jvm.MethodName) ∈ gtb := gt_of (tm5 89 rfl) rfl
theorem w5_90 : Jvm.Cond.code ({ cls := "MarkedChainsModel", name := "fails", desc := "(II)V" } : Jvm.MethodName) prog_8_method_13_code (3 : Nat) (Option.none : Option Jvm.ClassFile.FieldType) ∈ gtb := gt_of (tm5 90 rfl) rfl
theorem w5_91 : Jvm.Cond.methodLink "MarkedChainsModel" (97 : Nat) ({ cls := "MarkedChainsModel", name := "isRight", desc := "()Z" } : Jvm.MethodName) ∈ gtb := gt_of (tm5 91 rfl) rfl
theorem w5_93 : Jvm.Cond.instanceMethod ({ cls := "MarkedChainsModel", name := "isRight", desc := "()Z" } : Jvm.MethodName) ∈ gtb := gt_of (tm5 93 rfl) rfl
theorem w5_94 : Jvm.Cond.code ({ cls := "MarkedChainsModel", name := "isRight", desc := "()Z" } : Jvm.MethodName) prog_8_method_12_code (1 : Nat) (Option.some Jvm.ClassFile.FieldType.boolean) ∈ gtb := gt_of (tm5 94 rfl) rfl
theorem w5_95 : Jvm.Cond.methodLink "MarkedChainsModel" (141 : Nat) ({ cls := "MarkedChainsModel", name := "number", desc := "(II)I" } : Jvm.MethodName) ∈ gtb := gt_of (tm5 95 rfl) rfl
theorem w5_97 : Jvm.Cond.instanceMethod ({ cls := "MarkedChainsModel", name := "number", desc := "(II)I" } : Jvm.MethodName) ∈ gtb := gt_of (tm5 97 rfl) rfl
theorem w5_98 : Jvm.Cond.code ({ cls := "MarkedChainsModel", name := "number", desc := "(II)I" } : Jvm.MethodName) prog_8_method_16_code (4 : Nat) (Option.some Jvm.ClassFile.FieldType.int) ∈ gtb := gt_of (tm5 98 rfl) rfl
theorem w5_99 : Jvm.Cond.methodLink "MarkedChainsModel" (125 : Nat) ({ cls := "MarkedChainsModel", name := "isDigit", desc := "()Z" } : Jvm.MethodName) ∈ gtb := gt_of (tm5 99 rfl) rfl
theorem w5_101 : Jvm.Cond.instanceMethod ({ cls := "MarkedChainsModel", name := "isDigit", desc := "()Z" } : Jvm.MethodName) ∈ gtb := gt_of (tm5 101 rfl) rfl
theorem w5_102 : Jvm.Cond.code ({ cls := "MarkedChainsModel", name := "isDigit", desc := "()Z" } : Jvm.MethodName) prog_8_method_15_code (1 : Nat) (Option.some Jvm.ClassFile.FieldType.boolean) ∈ gtb := gt_of (tm5 102 rfl) rfl
theorem w5_103 : Jvm.Cond.constantLong "MarkedChainsModel" (121 : Nat) (48 : Int64) ∈ gtb := gt_of (tm5 103 rfl) rfl
theorem w5_104 : Jvm.Cond.constantLong "MarkedChainsModel" (123 : Nat) (57 : Int64) ∈ gtb := gt_of (tm5 104 rfl) rfl
theorem w5_105 : Jvm.Cond.methodLink "MarkedChainsModel" (135 : Nat) ({ cls := "java/lang/Math", name := "min", desc := "(II)I" } : Jvm.MethodName) ∈ gtb := gt_of (tm5 105 rfl) rfl
theorem w5_106 : Jvm.Cond.methodLink "MarkedChainsModel" (187 : Nat) ({ cls := "MarkedChainsModel", name := "readsPart", desc := "()V" } : Jvm.MethodName) ∈ gtb := gt_of (tm5 106 rfl) rfl
theorem w5_108 : Jvm.Cond.instanceMethod ({ cls := "MarkedChainsModel", name := "readsPart", desc := "()V" } : Jvm.MethodName) ∈ gtb := gt_of (tm5 108 rfl) rfl
theorem w5_109 : Jvm.Cond.code ({ cls := "MarkedChainsModel", name := "readsPart", desc := "()V" } : Jvm.MethodName) prog_8_method_22_code (2 : Nat) (Option.none : Option Jvm.ClassFile.FieldType) ∈ gtb := gt_of (tm5 109 rfl) rfl
theorem w5_111 : Jvm.Cond.methodLink "MarkedChainsModel" (144 : Nat) ({ cls := "MarkedChainsModel", name := "party", desc := "()I" } : Jvm.MethodName) ∈ gtb := gt_of (tm5 111 rfl) rfl
theorem w5_113 : Jvm.Cond.instanceMethod ({ cls := "MarkedChainsModel", name := "party", desc := "()I" } : Jvm.MethodName) ∈ gtb := gt_of (tm5 113 rfl) rfl
theorem w5_114 : Jvm.Cond.code ({ cls := "MarkedChainsModel", name := "party", desc := "()I" } : Jvm.MethodName) prog_8_method_17_code (1 : Nat) (Option.some Jvm.ClassFile.FieldType.int) ∈ gtb := gt_of (tm5 114 rfl) rfl
theorem w5_120 : Jvm.Cond.methodLink "MarkedChainsModel" (169 : Nat) ({ cls := "MarkedChainsModel", name := "readsLiars", desc := "()V" } : Jvm.MethodName) ∈ gtb := gt_of (tm5 120 rfl) rfl
theorem w5_122 : Jvm.Cond.instanceMethod ({ cls := "MarkedChainsModel", name := "readsLiars", desc := "()V" } : Jvm.MethodName) ∈ gtb := gt_of (tm5 122 rfl) rfl
theorem w5_123 : Jvm.Cond.code ({ cls := "MarkedChainsModel", name := "readsLiars", desc := "()V" } : Jvm.MethodName) prog_8_method_21_code (3 : Nat) (Option.none : Option Jvm.ClassFile.FieldType) ∈ gtb := gt_of (tm5 123 rfl) rfl
theorem w5_125 : Jvm.Cond.methodLink "MarkedChainsModel" (174 : Nat) ({ cls := "MarkedChainsModel", name := "readsLetter", desc := "(I)V" } : Jvm.MethodName) ∈ gtb := gt_of (tm5 125 rfl) rfl
theorem w5_127 : Jvm.Cond.instanceMethod ({ cls := "MarkedChainsModel", name := "readsLetter", desc := "(I)V" } : Jvm.MethodName) ∈ gtb := gt_of (tm5 127 rfl) rfl
theorem w5_128 : Jvm.Cond.code ({ cls := "MarkedChainsModel", name := "readsLetter", desc := "(I)V" } : Jvm.MethodName) prog_8_method_19_code (6 : Nat) (Option.none : Option Jvm.ClassFile.FieldType) ∈ gtb := gt_of (tm5 128 rfl) rfl
theorem w5_129 : Jvm.Cond.methodLink "MarkedChainsModel" (147 : Nat) ({ cls := "MarkedChainsModel", name := "readsWay", desc := "(I)V" } : Jvm.MethodName) ∈ gtb := gt_of (tm5 129 rfl) rfl
theorem w5_131 : Jvm.Cond.instanceMethod ({ cls := "MarkedChainsModel", name := "readsWay", desc := "(I)V" } : Jvm.MethodName) ∈ gtb := gt_of (tm5 131 rfl) rfl
theorem w5_132 : Jvm.Cond.code ({ cls := "MarkedChainsModel", name := "readsWay", desc := "(I)V" } : Jvm.MethodName) prog_8_method_18_code (2 : Nat) (Option.none : Option Jvm.ClassFile.FieldType) ∈ gtb := gt_of (tm5 132 rfl) rfl
theorem w5_133 : Jvm.Cond.methodLink "MarkedChainsModel" (150 : Nat) ({ cls := "MarkedChainsModel", name := "truth", desc := "(Z)I" } : Jvm.MethodName) ∈ gtb := gt_of (tm5 133 rfl) rfl
theorem w5_134 : Jvm.Cond.static ({ cls := "MarkedChainsModel", name := "truth", desc := "(Z)I" } : Jvm.MethodName) ∈ gtb := gt_of (tm5 134 rfl) rfl
theorem w5_135 : Jvm.Cond.code ({ cls := "MarkedChainsModel", name := "truth", desc := "(Z)I" } : Jvm.MethodName) prog_8_method_4_code (1 : Nat) (Option.some Jvm.ClassFile.FieldType.int) ∈ gtb := gt_of (tm5 135 rfl) rfl
theorem w5_137 : Jvm.Cond.methodLink "MarkedChainsModel" (179 : Nat) ({ cls := "MarkedChainsModel", name := "readsFault", desc := "(IIII)V" } : Jvm.MethodName) ∈ gtb := gt_of (tm5 137 rfl) rfl
theorem w5_139 : Jvm.Cond.instanceMethod ({ cls := "MarkedChainsModel", name := "readsFault", desc := "(IIII)V" } : Jvm.MethodName) ∈ gtb := gt_of (tm5 139 rfl) rfl
theorem w5_140 : Jvm.Cond.code ({ cls := "MarkedChainsModel", name := "readsFault", desc := "(IIII)V" } : Jvm.MethodName) prog_8_method_20_code (7 : Nat) (Option.none : Option Jvm.ClassFile.FieldType) ∈ gtb := gt_of (tm5 140 rfl) rfl
theorem w5_142 : Jvm.Cond.methodLink "MarkedChainsModel" (190 : Nat) ({ cls := "MarkedChainsModel", name := "moves", desc := "([II[II)V" } : Jvm.MethodName) ∈ gtb := gt_of (tm5 142 rfl) rfl
theorem w5_143 : Jvm.Cond.static ({ cls := "MarkedChainsModel", name := "moves", desc := "([II[II)V" } : Jvm.MethodName) ∈ gtb := gt_of (tm5 143 rfl) rfl
theorem w5_144 : Jvm.Cond.code ({ cls := "MarkedChainsModel", name := "moves", desc := "([II[II)V" } : Jvm.MethodName) prog_8_method_6_code (5 : Nat) (Option.none : Option Jvm.ClassFile.FieldType) ∈ gtb := gt_of (tm5 144 rfl) rfl
theorem w5_145 : Jvm.Cond.methodLink "MarkedChainsLaw" (66 : Nat) ({ cls := "MarkedChainsModel", name := "undo", desc := "()I" } : Jvm.MethodName) ∈ gtb := gt_of (tm5 145 rfl) rfl
theorem w5_146 : Jvm.Cond.instanceMethod ({ cls := "MarkedChainsModel", name := "undo", desc := "()I" } : Jvm.MethodName) ∈ gtb := gt_of (tm5 146 rfl) rfl
theorem w5_147 : Jvm.Cond.selects "MarkedChainsModel" ({ cls := "MarkedChainsModel", name := "undo", desc := "()I" } : Jvm.MethodName) ({ cls := "MarkedChainsModel", name := "undo", desc := "()I" } : Jvm.MethodName) ∈ gtb := gt_of (tm5 147 rfl) rfl
theorem w5_148 : Jvm.Cond.code ({ cls := "MarkedChainsModel", name := "undo", desc := "()I" } : Jvm.MethodName) prog_8_method_25_code (1 : Nat) (Option.some Jvm.ClassFile.FieldType.int) ∈ gtb := gt_of (tm5 148 rfl) rfl
theorem w5_149 : Jvm.Cond.methodLink "MarkedChainsLaw" (70 : Nat) ({ cls := "MarkedChainsModel", name := "keep", desc := "(I)I" } : Jvm.MethodName) ∈ gtb := gt_of (tm5 149 rfl) rfl
theorem w5_150 : Jvm.Cond.instanceMethod ({ cls := "MarkedChainsModel", name := "keep", desc := "(I)I" } : Jvm.MethodName) ∈ gtb := gt_of (tm5 150 rfl) rfl
theorem w5_151 : Jvm.Cond.selects "MarkedChainsModel" ({ cls := "MarkedChainsModel", name := "keep", desc := "(I)I" } : Jvm.MethodName) ({ cls := "MarkedChainsModel", name := "keep", desc := "(I)I" } : Jvm.MethodName) ∈ gtb := gt_of (tm5 151 rfl) rfl
theorem w5_152 : Jvm.Cond.code ({ cls := "MarkedChainsModel", name := "keep", desc := "(I)I" } : Jvm.MethodName) prog_8_method_26_code (2 : Nat) (Option.some Jvm.ClassFile.FieldType.int) ∈ gtb := gt_of (tm5 152 rfl) rfl
theorem w5_153 : Jvm.Cond.methodLink "MarkedChainsLaw" (74 : Nat) ({ cls := "MarkedChainsModel", name := "back", desc := "(I)I" } : Jvm.MethodName) ∈ gtb := gt_of (tm5 153 rfl) rfl
theorem w5_154 : Jvm.Cond.instanceMethod ({ cls := "MarkedChainsModel", name := "back", desc := "(I)I" } : Jvm.MethodName) ∈ gtb := gt_of (tm5 154 rfl) rfl
theorem w5_155 : Jvm.Cond.selects "MarkedChainsModel" ({ cls := "MarkedChainsModel", name := "back", desc := "(I)I" } : Jvm.MethodName) ({ cls := "MarkedChainsModel", name := "back", desc := "(I)I" } : Jvm.MethodName) ∈ gtb := gt_of (tm5 155 rfl) rfl
theorem w5_156 : Jvm.Cond.code ({ cls := "MarkedChainsModel", name := "back", desc := "(I)I" } : Jvm.MethodName) prog_8_method_27_code (2 : Nat) (Option.some Jvm.ClassFile.FieldType.int) ∈ gtb := gt_of (tm5 156 rfl) rfl
theorem w5_157 : Jvm.Cond.methodLink "MarkedChainsLaw" (32 : Nat) ({ cls := "MarkedChainsModel", name := "settle", desc := "(II)I" } : Jvm.MethodName) ∈ gtb := gt_of (tm5 157 rfl) rfl
theorem w5_158 : Jvm.Cond.instanceMethod ({ cls := "MarkedChainsModel", name := "settle", desc := "(II)I" } : Jvm.MethodName) ∈ gtb := gt_of (tm5 158 rfl) rfl
theorem w5_159 : Jvm.Cond.selects "MarkedChainsModel" ({ cls := "MarkedChainsModel", name := "settle", desc := "(II)I" } : Jvm.MethodName) ({ cls := "MarkedChainsModel", name := "settle", desc := "(II)I" } : Jvm.MethodName) ∈ gtb := gt_of (tm5 159 rfl) rfl
theorem w5_160 : Jvm.Cond.code ({ cls := "MarkedChainsModel", name := "settle", desc := "(II)I" } : Jvm.MethodName) prog_8_method_33_code (4 : Nat) (Option.some Jvm.ClassFile.FieldType.int) ∈ gtb := gt_of (tm5 160 rfl) rfl
theorem w5_161 : Jvm.Cond.constantLong "MarkedChainsModel" (210 : Nat) (4 : Int64) ∈ gtb := gt_of (tm5 161 rfl) rfl
theorem w5_162 : Jvm.Cond.methodLink "MarkedChainsModel" (214 : Nat) ({ cls := "MarkedChainsModel", name := "canBe", desc := "(II)Z" } : Jvm.MethodName) ∈ gtb := gt_of (tm5 162 rfl) rfl
theorem w5_164 : Jvm.Cond.instanceMethod ({ cls := "MarkedChainsModel", name := "canBe", desc := "(II)Z" } : Jvm.MethodName) ∈ gtb := gt_of (tm5 164 rfl) rfl
theorem w5_165 : Jvm.Cond.code ({ cls := "MarkedChainsModel", name := "canBe", desc := "(II)Z" } : Jvm.MethodName) prog_8_method_32_code (3 : Nat) (Option.some Jvm.ClassFile.FieldType.boolean) ∈ gtb := gt_of (tm5 165 rfl) rfl
theorem w5_166 : Jvm.Cond.methodLink "MarkedChainsModel" (197 : Nat) ({ cls := "MarkedChainsModel", name := "isParty", desc := "(I)Z" } : Jvm.MethodName) ∈ gtb := gt_of (tm5 166 rfl) rfl
theorem w5_168 : Jvm.Cond.instanceMethod ({ cls := "MarkedChainsModel", name := "isParty", desc := "(I)Z" } : Jvm.MethodName) ∈ gtb := gt_of (tm5 168 rfl) rfl
theorem w5_169 : Jvm.Cond.code ({ cls := "MarkedChainsModel", name := "isParty", desc := "(I)Z" } : Jvm.MethodName) prog_8_method_28_code (2 : Nat) (Option.some Jvm.ClassFile.FieldType.boolean) ∈ gtb := gt_of (tm5 169 rfl) rfl
theorem w5_170 : Jvm.Cond.constantLong "MarkedChainsModel" (208 : Nat) (8 : Int64) ∈ gtb := gt_of (tm5 170 rfl) rfl
theorem w5_171 : Jvm.Cond.constantLong "MarkedChainsModel" (212 : Nat) (3 : Int64) ∈ gtb := gt_of (tm5 171 rfl) rfl
theorem w5_172 : Jvm.Cond.methodLink "MarkedChainsModel" (217 : Nat) ({ cls := "MarkedChainsModel", name := "keepsPast", desc := "()V" } : Jvm.MethodName) ∈ gtb := gt_of (tm5 172 rfl) rfl
theorem w5_174 : Jvm.Cond.instanceMethod ({ cls := "MarkedChainsModel", name := "keepsPast", desc := "()V" } : Jvm.MethodName) ∈ gtb := gt_of (tm5 174 rfl) rfl
theorem w5_175 : Jvm.Cond.code ({ cls := "MarkedChainsModel", name := "keepsPast", desc := "()V" } : Jvm.MethodName) prog_8_method_24_code (2 : Nat) (Option.none : Option Jvm.ClassFile.FieldType) ∈ gtb := gt_of (tm5 175 rfl) rfl
theorem w5_176 : Jvm.Cond.methodLink "MarkedChainsLaw" (36 : Nat) ({ cls := "MarkedChainsModel", name := "lies", desc := "(I)I" } : Jvm.MethodName) ∈ gtb := gt_of (tm5 176 rfl) rfl
theorem w5_177 : Jvm.Cond.instanceMethod ({ cls := "MarkedChainsModel", name := "lies", desc := "(I)I" } : Jvm.MethodName) ∈ gtb := gt_of (tm5 177 rfl) rfl
theorem w5_178 : Jvm.Cond.selects "MarkedChainsModel" ({ cls := "MarkedChainsModel", name := "lies", desc := "(I)I" } : Jvm.MethodName) ({ cls := "MarkedChainsModel", name := "lies", desc := "(I)I" } : Jvm.MethodName) ∈ gtb := gt_of (tm5 178 rfl) rfl
theorem w5_179 : Jvm.Cond.code ({ cls := "MarkedChainsModel", name := "lies", desc := "(I)I" } : Jvm.MethodName) prog_8_method_34_code (2 : Nat) (Option.some Jvm.ClassFile.FieldType.int) ∈ gtb := gt_of (tm5 179 rfl) rfl
theorem w5_180 : Jvm.Cond.methodLink "MarkedChainsModel" (205 : Nat) ({ cls := "MarkedChainsModel", name := "isLiar", desc := "(I)Z" } : Jvm.MethodName) ∈ gtb := gt_of (tm5 180 rfl) rfl
theorem w5_182 : Jvm.Cond.instanceMethod ({ cls := "MarkedChainsModel", name := "isLiar", desc := "(I)Z" } : Jvm.MethodName) ∈ gtb := gt_of (tm5 182 rfl) rfl
theorem w5_183 : Jvm.Cond.code ({ cls := "MarkedChainsModel", name := "isLiar", desc := "(I)Z" } : Jvm.MethodName) prog_8_method_30_code (2 : Nat) (Option.some Jvm.ClassFile.FieldType.boolean) ∈ gtb := gt_of (tm5 183 rfl) rfl
theorem w5_184 : Jvm.Cond.methodLink "MarkedChainsModel" (201 : Nat) ({ cls := "MarkedChainsModel", name := "has", desc := "(II)Z" } : Jvm.MethodName) ∈ gtb := gt_of (tm5 184 rfl) rfl
theorem w5_185 : Jvm.Cond.static ({ cls := "MarkedChainsModel", name := "has", desc := "(II)Z" } : Jvm.MethodName) ∈ gtb := gt_of (tm5 185 rfl) rfl
theorem w5_186 : Jvm.Cond.code ({ cls := "MarkedChainsModel", name := "has", desc := "(II)Z" } : Jvm.MethodName) prog_8_method_5_code (2 : Nat) (Option.some Jvm.ClassFile.FieldType.boolean) ∈ gtb := gt_of (tm5 186 rfl) rfl
theorem w5_187 : Jvm.Cond.methodLink "MarkedChainsLaw" (40 : Nat) ({ cls := "MarkedChainsModel", name := "plan", desc := "(IIIII)I" } : Jvm.MethodName) ∈ gtb := gt_of (tm5 187 rfl) rfl
theorem w5_188 : Jvm.Cond.instanceMethod ({ cls := "MarkedChainsModel", name := "plan", desc := "(IIIII)I" } : Jvm.MethodName) ∈ gtb := gt_of (tm5 188 rfl) rfl
theorem w5_189 : Jvm.Cond.selects "MarkedChainsModel" ({ cls := "MarkedChainsModel", name := "plan", desc := "(IIIII)I" } : Jvm.MethodName) ({ cls := "MarkedChainsModel", name := "plan", desc := "(IIIII)I" } : Jvm.MethodName) ∈ gtb := gt_of (tm5 189 rfl) rfl
theorem w5_190 : Jvm.Cond.code ({ cls := "MarkedChainsModel", name := "plan", desc := "(IIIII)I" } : Jvm.MethodName) prog_8_method_37_code (7 : Nat) (Option.some Jvm.ClassFile.FieldType.int) ∈ gtb := gt_of (tm5 190 rfl) rfl
theorem w5_191 : Jvm.Cond.methodLink "MarkedChainsModel" (220 : Nat) ({ cls := "MarkedChainsModel", name := "laysTold", desc := "(I)I" } : Jvm.MethodName) ∈ gtb := gt_of (tm5 191 rfl) rfl
theorem w5_193 : Jvm.Cond.instanceMethod ({ cls := "MarkedChainsModel", name := "laysTold", desc := "(I)I" } : Jvm.MethodName) ∈ gtb := gt_of (tm5 193 rfl) rfl
theorem w5_194 : Jvm.Cond.code ({ cls := "MarkedChainsModel", name := "laysTold", desc := "(I)I" } : Jvm.MethodName) prog_8_method_35_code (8 : Nat) (Option.some Jvm.ClassFile.FieldType.int) ∈ gtb := gt_of (tm5 194 rfl) rfl
theorem w5_195 : Jvm.Cond.methodLink "MarkedChainsModel" (224 : Nat) ({ cls := "MarkedChainsModel", name := "areUnlike", desc := "(II)Z" } : Jvm.MethodName) ∈ gtb := gt_of (tm5 195 rfl) rfl
theorem w5_197 : Jvm.Cond.instanceMethod ({ cls := "MarkedChainsModel", name := "areUnlike", desc := "(II)Z" } : Jvm.MethodName) ∈ gtb := gt_of (tm5 197 rfl) rfl
theorem w5_198 : Jvm.Cond.code ({ cls := "MarkedChainsModel", name := "areUnlike", desc := "(II)Z" } : Jvm.MethodName) prog_8_method_29_code (3 : Nat) (Option.some Jvm.ClassFile.FieldType.boolean) ∈ gtb := gt_of (tm5 198 rfl) rfl
theorem w5_199 : Jvm.Cond.methodLink "MarkedChainsModel" (227 : Nat) ({ cls := "MarkedChainsModel", name := "plans", desc := "(IIIII)V" } : Jvm.MethodName) ∈ gtb := gt_of (tm5 199 rfl) rfl
theorem w5_201 : Jvm.Cond.instanceMethod ({ cls := "MarkedChainsModel", name := "plans", desc := "(IIIII)V" } : Jvm.MethodName) ∈ gtb := gt_of (tm5 201 rfl) rfl
theorem w5_202 : Jvm.Cond.code ({ cls := "MarkedChainsModel", name := "plans", desc := "(IIIII)V" } : Jvm.MethodName) prog_8_method_36_code (8 : Nat) (Option.none : Option Jvm.ClassFile.FieldType) ∈ gtb := gt_of (tm5 202 rfl) rfl
theorem w5_203 : Jvm.Cond.methodLink "MarkedChainsLaw" (44 : Nat) ({ cls := "MarkedChainsModel", name := "drop", desc := "(II)I" } : Jvm.MethodName) ∈ gtb := gt_of (tm5 203 rfl) rfl
theorem w5_204 : Jvm.Cond.instanceMethod ({ cls := "MarkedChainsModel", name := "drop", desc := "(II)I" } : Jvm.MethodName) ∈ gtb := gt_of (tm5 204 rfl) rfl
theorem w5_205 : Jvm.Cond.selects "MarkedChainsModel" ({ cls := "MarkedChainsModel", name := "drop", desc := "(II)I" } : Jvm.MethodName) ({ cls := "MarkedChainsModel", name := "drop", desc := "(II)I" } : Jvm.MethodName) ∈ gtb := gt_of (tm5 205 rfl) rfl
theorem w5_206 : Jvm.Cond.code ({ cls := "MarkedChainsModel", name := "drop", desc := "(II)I" } : Jvm.MethodName) prog_8_method_41_code (3 : Nat) (Option.some Jvm.ClassFile.FieldType.int) ∈ gtb := gt_of (tm5 206 rfl) rfl
theorem w5_207 : Jvm.Cond.constantLong "MarkedChainsModel" (237 : Nat) (2 : Int64) ∈ gtb := gt_of (tm5 207 rfl) rfl
theorem w5_208 : Jvm.Cond.methodLink "MarkedChainsModel" (239 : Nat) ({ cls := "MarkedChainsModel", name := "takesOut", desc := "(II)V" } : Jvm.MethodName) ∈ gtb := gt_of (tm5 208 rfl) rfl
theorem w5_210 : Jvm.Cond.instanceMethod ({ cls := "MarkedChainsModel", name := "takesOut", desc := "(II)V" } : Jvm.MethodName) ∈ gtb := gt_of (tm5 210 rfl) rfl
theorem w5_211 : Jvm.Cond.code ({ cls := "MarkedChainsModel", name := "takesOut", desc := "(II)V" } : Jvm.MethodName) prog_8_method_40_code (5 : Nat) (Option.none : Option Jvm.ClassFile.FieldType) ∈ gtb := gt_of (tm5 211 rfl) rfl
theorem w5_212 : Jvm.Cond.methodLink "MarkedChainsModel" (231 : Nat) ({ cls := "MarkedChainsModel", name := "wideOf", desc := "(I)I" } : Jvm.MethodName) ∈ gtb := gt_of (tm5 212 rfl) rfl
theorem w5_213 : Jvm.Cond.static ({ cls := "MarkedChainsModel", name := "wideOf", desc := "(I)I" } : Jvm.MethodName) ∈ gtb := gt_of (tm5 213 rfl) rfl
theorem w5_214 : Jvm.Cond.code ({ cls := "MarkedChainsModel", name := "wideOf", desc := "(I)I" } : Jvm.MethodName) prog_8_method_39_code (1 : Nat) (Option.some Jvm.ClassFile.FieldType.int) ∈ gtb := gt_of (tm5 214 rfl) rfl
theorem w5_215 : Jvm.Cond.methodLink "MarkedChainsModel" (234 : Nat) ({ cls := "MarkedChainsModel", name := "placeOf", desc := "(I)I" } : Jvm.MethodName) ∈ gtb := gt_of (tm5 215 rfl) rfl
theorem w5_216 : Jvm.Cond.static ({ cls := "MarkedChainsModel", name := "placeOf", desc := "(I)I" } : Jvm.MethodName) ∈ gtb := gt_of (tm5 216 rfl) rfl
theorem w5_217 : Jvm.Cond.code ({ cls := "MarkedChainsModel", name := "placeOf", desc := "(I)I" } : Jvm.MethodName) prog_8_method_38_code (1 : Nat) (Option.some Jvm.ClassFile.FieldType.int) ∈ gtb := gt_of (tm5 217 rfl) rfl
theorem w5_218 : Jvm.Cond.methodLink "MarkedChainsLaw" (49 : Nat) ({ cls := "MarkedChainsModel", name := "omit", desc := "(III)I" } : Jvm.MethodName) ∈ gtb := gt_of (tm5 218 rfl) rfl
theorem w5_219 : Jvm.Cond.instanceMethod ({ cls := "MarkedChainsModel", name := "omit", desc := "(III)I" } : Jvm.MethodName) ∈ gtb := gt_of (tm5 219 rfl) rfl
theorem w5_220 : Jvm.Cond.selects "MarkedChainsModel" ({ cls := "MarkedChainsModel", name := "omit", desc := "(III)I" } : Jvm.MethodName) ({ cls := "MarkedChainsModel", name := "omit", desc := "(III)I" } : Jvm.MethodName) ∈ gtb := gt_of (tm5 220 rfl) rfl
theorem w5_221 : Jvm.Cond.code ({ cls := "MarkedChainsModel", name := "omit", desc := "(III)I" } : Jvm.MethodName) prog_8_method_45_code (4 : Nat) (Option.some Jvm.ClassFile.FieldType.int) ∈ gtb := gt_of (tm5 221 rfl) rfl
theorem w5_222 : Jvm.Cond.methodLink "MarkedChainsModel" (251 : Nat) ({ cls := "MarkedChainsModel", name := "adds", desc := "(IIIII)I" } : Jvm.MethodName) ∈ gtb := gt_of (tm5 222 rfl) rfl
theorem w5_224 : Jvm.Cond.instanceMethod ({ cls := "MarkedChainsModel", name := "adds", desc := "(IIIII)I" } : Jvm.MethodName) ∈ gtb := gt_of (tm5 224 rfl) rfl
theorem w5_225 : Jvm.Cond.code ({ cls := "MarkedChainsModel", name := "adds", desc := "(IIIII)I" } : Jvm.MethodName) prog_8_method_44_code (6 : Nat) (Option.some Jvm.ClassFile.FieldType.int) ∈ gtb := gt_of (tm5 225 rfl) rfl
theorem w5_226 : Jvm.Cond.constantLong "MarkedChainsModel" (242 : Nat) (7 : Int64) ∈ gtb := gt_of (tm5 226 rfl) rfl
theorem w5_227 : Jvm.Cond.methodLink "MarkedChainsModel" (244 : Nat) ({ cls := "MarkedChainsModel", name := "faultOf", desc := "(IIII)I" } : Jvm.MethodName) ∈ gtb := gt_of (tm5 227 rfl) rfl
theorem w5_229 : Jvm.Cond.instanceMethod ({ cls := "MarkedChainsModel", name := "faultOf", desc := "(IIII)I" } : Jvm.MethodName) ∈ gtb := gt_of (tm5 229 rfl) rfl
theorem w5_230 : Jvm.Cond.code ({ cls := "MarkedChainsModel", name := "faultOf", desc := "(IIII)I" } : Jvm.MethodName) prog_8_method_42_code (7 : Nat) (Option.some Jvm.ClassFile.FieldType.int) ∈ gtb := gt_of (tm5 230 rfl) rfl
theorem w5_231 : Jvm.Cond.methodLink "MarkedChainsModel" (248 : Nat) ({ cls := "MarkedChainsModel", name := "faults", desc := "(IIIII)V" } : Jvm.MethodName) ∈ gtb := gt_of (tm5 231 rfl) rfl
theorem w5_233 : Jvm.Cond.instanceMethod ({ cls := "MarkedChainsModel", name := "faults", desc := "(IIIII)V" } : Jvm.MethodName) ∈ gtb := gt_of (tm5 233 rfl) rfl
theorem w5_234 : Jvm.Cond.code ({ cls := "MarkedChainsModel", name := "faults", desc := "(IIIII)V" } : Jvm.MethodName) prog_8_method_43_code (7 : Nat) (Option.none : Option Jvm.ClassFile.FieldType) ∈ gtb := gt_of (tm5 234 rfl) rfl
theorem w5_235 : Jvm.Cond.methodLink "MarkedChainsLaw" (54 : Nat) ({ cls := "MarkedChainsModel", name := "late", desc := "(IIII)I" } : Jvm.MethodName) ∈ gtb := gt_of (tm5 235 rfl) rfl
theorem w5_236 : Jvm.Cond.instanceMethod ({ cls := "MarkedChainsModel", name := "late", desc := "(IIII)I" } : Jvm.MethodName) ∈ gtb := gt_of (tm5 236 rfl) rfl
theorem w5_237 : Jvm.Cond.selects "MarkedChainsModel" ({ cls := "MarkedChainsModel", name := "late", desc := "(IIII)I" } : Jvm.MethodName) ({ cls := "MarkedChainsModel", name := "late", desc := "(IIII)I" } : Jvm.MethodName) ∈ gtb := gt_of (tm5 237 rfl) rfl
theorem w5_238 : Jvm.Cond.code ({ cls := "MarkedChainsModel", name := "late", desc := "(IIII)I" } : Jvm.MethodName) prog_8_method_46_code (5 : Nat) (Option.some Jvm.ClassFile.FieldType.int) ∈ gtb := gt_of (tm5 238 rfl) rfl
theorem w5_239 : Jvm.Cond.methodLink "MarkedChainsLaw" (58 : Nat) ({ cls := "MarkedChainsModel", name := "attack", desc := "()I" } : Jvm.MethodName) ∈ gtb := gt_of (tm5 239 rfl) rfl
theorem w6_0 : Jvm.Cond.instanceMethod ({ cls := "MarkedChainsModel", name := "attack", desc := "()I" } : Jvm.MethodName) ∈ gtb := gt_of (tm6 0 rfl) rfl
theorem w6_1 : Jvm.Cond.selects "MarkedChainsModel" ({ cls := "MarkedChainsModel", name := "attack", desc := "()I" } : Jvm.MethodName) ({ cls := "MarkedChainsModel", name := "attack", desc := "()I" } : Jvm.MethodName) ∈ gtb := gt_of (tm6 1 rfl) rfl
theorem w6_2 : Jvm.Cond.code ({ cls := "MarkedChainsModel", name := "attack", desc := "()I" } : Jvm.MethodName) prog_8_method_47_code (5 : Nat) (Option.some Jvm.ClassFile.FieldType.int) ∈ gtb := gt_of (tm6 2 rfl) rfl
theorem w6_3 : Jvm.Cond.methodLink "MarkedChainsModel" (255 : Nat) ({ cls := "java/lang/Integer", name := "bitCount", desc := "(I)I" } : Jvm.MethodName) ∈ gtb := gt_of (tm6 3 rfl) rfl
theorem w6_4 : Jvm.Cond.methodLink "MarkedChainsLaw" (62 : Nat) ({ cls := "MarkedChainsModel", name := "trade", desc := "(II)I" } : Jvm.MethodName) ∈ gtb := gt_of (tm6 4 rfl) rfl
theorem w6_5 : Jvm.Cond.instanceMethod ({ cls := "MarkedChainsModel", name := "trade", desc := "(II)I" } : Jvm.MethodName) ∈ gtb := gt_of (tm6 5 rfl) rfl
theorem w6_6 : Jvm.Cond.selects "MarkedChainsModel" ({ cls := "MarkedChainsModel", name := "trade", desc := "(II)I" } : Jvm.MethodName) ({ cls := "MarkedChainsModel", name := "trade", desc := "(II)I" } : Jvm.MethodName) ∈ gtb := gt_of (tm6 6 rfl) rfl
theorem w6_7 : Jvm.Cond.code ({ cls := "MarkedChainsModel", name := "trade", desc := "(II)I" } : Jvm.MethodName) prog_8_method_49_code (8 : Nat) (Option.some Jvm.ClassFile.FieldType.int) ∈ gtb := gt_of (tm6 7 rfl) rfl
theorem w6_8 : Jvm.Cond.methodLink "MarkedChainsModel" (260 : Nat) ({ cls := "MarkedChainsModel", name := "traded", desc := "(III)I" } : Jvm.MethodName) ∈ gtb := gt_of (tm6 8 rfl) rfl
theorem w6_9 : Jvm.Cond.static ({ cls := "MarkedChainsModel", name := "traded", desc := "(III)I" } : Jvm.MethodName) ∈ gtb := gt_of (tm6 9 rfl) rfl
theorem w6_10 : Jvm.Cond.code ({ cls := "MarkedChainsModel", name := "traded", desc := "(III)I" } : Jvm.MethodName) prog_8_method_48_code (3 : Nat) (Option.some Jvm.ClassFile.FieldType.int) ∈ gtb := gt_of (tm6 10 rfl) rfl
theorem w6_11 : Jvm.Cond.methodLink "MarkedChainsLaw" (78 : Nat) ({ cls := "MarkedChainsModel", name := "set", desc := "(II)I" } : Jvm.MethodName) ∈ gtb := gt_of (tm6 11 rfl) rfl
theorem w6_12 : Jvm.Cond.instanceMethod ({ cls := "MarkedChainsModel", name := "set", desc := "(II)I" } : Jvm.MethodName) ∈ gtb := gt_of (tm6 12 rfl) rfl
theorem w6_13 : Jvm.Cond.selects "MarkedChainsModel" ({ cls := "MarkedChainsModel", name := "set", desc := "(II)I" } : Jvm.MethodName) ({ cls := "MarkedChainsModel", name := "set", desc := "(II)I" } : Jvm.MethodName) ∈ gtb := gt_of (tm6 13 rfl) rfl
theorem w6_14 : Jvm.Cond.code ({ cls := "MarkedChainsModel", name := "set", desc := "(II)I" } : Jvm.MethodName) prog_8_method_65_code (3 : Nat) (Option.some Jvm.ClassFile.FieldType.int) ∈ gtb := gt_of (tm6 14 rfl) rfl
theorem w6_15 : Jvm.Cond.methodLink "MarkedChainsModel" (300 : Nat) ({ cls := "MarkedChainsModel", name := "isHonest", desc := "(I)Z" } : Jvm.MethodName) ∈ gtb := gt_of (tm6 15 rfl) rfl
theorem w6_17 : Jvm.Cond.instanceMethod ({ cls := "MarkedChainsModel", name := "isHonest", desc := "(I)Z" } : Jvm.MethodName) ∈ gtb := gt_of (tm6 17 rfl) rfl
theorem w6_18 : Jvm.Cond.code ({ cls := "MarkedChainsModel", name := "isHonest", desc := "(I)Z" } : Jvm.MethodName) prog_8_method_31_code (2 : Nat) (Option.some Jvm.ClassFile.FieldType.boolean) ∈ gtb := gt_of (tm6 18 rfl) rfl
theorem w6_19 : Jvm.Cond.methodLink "MarkedChainsModel" (321 : Nat) ({ cls := "MarkedChainsModel", name := "runs", desc := "()V" } : Jvm.MethodName) ∈ gtb := gt_of (tm6 19 rfl) rfl
theorem w6_21 : Jvm.Cond.instanceMethod ({ cls := "MarkedChainsModel", name := "runs", desc := "()V" } : Jvm.MethodName) ∈ gtb := gt_of (tm6 21 rfl) rfl
theorem w6_22 : Jvm.Cond.code ({ cls := "MarkedChainsModel", name := "runs", desc := "()V" } : Jvm.MethodName) prog_8_method_59_code (3 : Nat) (Option.none : Option Jvm.ClassFile.FieldType) ∈ gtb := gt_of (tm6 22 rfl) rfl
theorem w6_23 : Jvm.Cond.methodLink "MarkedChainsModel" (276 : Nat) ({ cls := "MarkedChainsModel", name := "cell", desc := "(II)I" } : Jvm.MethodName) ∈ gtb := gt_of (tm6 23 rfl) rfl
theorem w6_24 : Jvm.Cond.static ({ cls := "MarkedChainsModel", name := "cell", desc := "(II)I" } : Jvm.MethodName) ∈ gtb := gt_of (tm6 24 rfl) rfl
theorem w6_25 : Jvm.Cond.code ({ cls := "MarkedChainsModel", name := "cell", desc := "(II)I" } : Jvm.MethodName) prog_8_method_50_code (2 : Nat) (Option.some Jvm.ClassFile.FieldType.int) ∈ gtb := gt_of (tm6 25 rfl) rfl
theorem w6_26 : Jvm.Cond.methodLink "MarkedChainsModel" (303 : Nat) ({ cls := "MarkedChainsModel", name := "sendsHonest", desc := "(II)V" } : Jvm.MethodName) ∈ gtb := gt_of (tm6 26 rfl) rfl
theorem w6_28 : Jvm.Cond.instanceMethod ({ cls := "MarkedChainsModel", name := "sendsHonest", desc := "(II)V" } : Jvm.MethodName) ∈ gtb := gt_of (tm6 28 rfl) rfl
theorem w6_29 : Jvm.Cond.code ({ cls := "MarkedChainsModel", name := "sendsHonest", desc := "(II)V" } : Jvm.MethodName) prog_8_method_55_code (6 : Nat) (Option.none : Option Jvm.ClassFile.FieldType) ∈ gtb := gt_of (tm6 29 rfl) rfl
theorem w6_30 : Jvm.Cond.methodLink "MarkedChainsModel" (285 : Nat) ({ cls := "MarkedChainsModel", name := "sendsAll", desc := "(IIII)V" } : Jvm.MethodName) ∈ gtb := gt_of (tm6 30 rfl) rfl
theorem w6_32 : Jvm.Cond.instanceMethod ({ cls := "MarkedChainsModel", name := "sendsAll", desc := "(IIII)V" } : Jvm.MethodName) ∈ gtb := gt_of (tm6 32 rfl) rfl
theorem w6_33 : Jvm.Cond.code ({ cls := "MarkedChainsModel", name := "sendsAll", desc := "(IIII)V" } : Jvm.MethodName) prog_8_method_52_code (6 : Nat) (Option.none : Option Jvm.ClassFile.FieldType) ∈ gtb := gt_of (tm6 33 rfl) rfl
theorem w6_34 : Jvm.Cond.methodLink "MarkedChainsModel" (279 : Nat) ({ cls := "MarkedChainsModel", name := "sends", desc := "(IIIII)V" } : Jvm.MethodName) ∈ gtb := gt_of (tm6 34 rfl) rfl
theorem w6_36 : Jvm.Cond.instanceMethod ({ cls := "MarkedChainsModel", name := "sends", desc := "(IIIII)V" } : Jvm.MethodName) ∈ gtb := gt_of (tm6 36 rfl) rfl
theorem w6_37 : Jvm.Cond.code ({ cls := "MarkedChainsModel", name := "sends", desc := "(IIIII)V" } : Jvm.MethodName) prog_8_method_51_code (11 : Nat) (Option.none : Option Jvm.ClassFile.FieldType) ∈ gtb := gt_of (tm6 37 rfl) rfl
theorem w6_38 : Jvm.Cond.methodLink "MarkedChainsModel" (288 : Nat) ({ cls := "MarkedChainsModel", name := "relays", desc := "(II)Z" } : Jvm.MethodName) ∈ gtb := gt_of (tm6 38 rfl) rfl
theorem w6_40 : Jvm.Cond.instanceMethod ({ cls := "MarkedChainsModel", name := "relays", desc := "(II)Z" } : Jvm.MethodName) ∈ gtb := gt_of (tm6 40 rfl) rfl
theorem w6_41 : Jvm.Cond.code ({ cls := "MarkedChainsModel", name := "relays", desc := "(II)Z" } : Jvm.MethodName) prog_8_method_54_code (3 : Nat) (Option.some Jvm.ClassFile.FieldType.boolean) ∈ gtb := gt_of (tm6 41 rfl) rfl
theorem w6_42 : Jvm.Cond.methodLink "MarkedChainsModel" (282 : Nat) ({ cls := "MarkedChainsModel", name := "rank", desc := "(II)I" } : Jvm.MethodName) ∈ gtb := gt_of (tm6 42 rfl) rfl
theorem w6_44 : Jvm.Cond.instanceMethod ({ cls := "MarkedChainsModel", name := "rank", desc := "(II)I" } : Jvm.MethodName) ∈ gtb := gt_of (tm6 44 rfl) rfl
theorem w6_45 : Jvm.Cond.code ({ cls := "MarkedChainsModel", name := "rank", desc := "(II)I" } : Jvm.MethodName) prog_8_method_53_code (6 : Nat) (Option.some Jvm.ClassFile.FieldType.int) ∈ gtb := gt_of (tm6 45 rfl) rfl
theorem w6_46 : Jvm.Cond.methodLink "MarkedChainsModel" (306 : Nat) ({ cls := "MarkedChainsModel", name := "sendsPlanned", desc := "(I)V" } : Jvm.MethodName) ∈ gtb := gt_of (tm6 46 rfl) rfl
theorem w6_48 : Jvm.Cond.instanceMethod ({ cls := "MarkedChainsModel", name := "sendsPlanned", desc := "(I)V" } : Jvm.MethodName) ∈ gtb := gt_of (tm6 48 rfl) rfl
theorem w6_49 : Jvm.Cond.code ({ cls := "MarkedChainsModel", name := "sendsPlanned", desc := "(I)V" } : Jvm.MethodName) prog_8_method_57_code (5 : Nat) (Option.none : Option Jvm.ClassFile.FieldType) ∈ gtb := gt_of (tm6 49 rfl) rfl
theorem w6_50 : Jvm.Cond.methodLink "MarkedChainsModel" (291 : Nat) ({ cls := "MarkedChainsModel", name := "isForged", desc := "(II)Z" } : Jvm.MethodName) ∈ gtb := gt_of (tm6 50 rfl) rfl
theorem w6_52 : Jvm.Cond.instanceMethod ({ cls := "MarkedChainsModel", name := "isForged", desc := "(II)Z" } : Jvm.MethodName) ∈ gtb := gt_of (tm6 52 rfl) rfl
theorem w6_53 : Jvm.Cond.code ({ cls := "MarkedChainsModel", name := "isForged", desc := "(II)Z" } : Jvm.MethodName) prog_8_method_56_code (4 : Nat) (Option.some Jvm.ClassFile.FieldType.boolean) ∈ gtb := gt_of (tm6 53 rfl) rfl
theorem w6_54 : Jvm.Cond.methodLink "MarkedChainsModel" (309 : Nat) ({ cls := "MarkedChainsModel", name := "reads", desc := "(I)V" } : Jvm.MethodName) ∈ gtb := gt_of (tm6 54 rfl) rfl
theorem w6_56 : Jvm.Cond.instanceMethod ({ cls := "MarkedChainsModel", name := "reads", desc := "(I)V" } : Jvm.MethodName) ∈ gtb := gt_of (tm6 56 rfl) rfl
theorem w6_57 : Jvm.Cond.code ({ cls := "MarkedChainsModel", name := "reads", desc := "(I)V" } : Jvm.MethodName) prog_8_method_58_code (4 : Nat) (Option.none : Option Jvm.ClassFile.FieldType) ∈ gtb := gt_of (tm6 57 rfl) rfl
theorem w6_58 : Jvm.Cond.methodLink "MarkedChainsModel" (312 : Nat) ({ cls := "MarkedChainsModel", name := "setOf", desc := "(II)I" } : Jvm.MethodName) ∈ gtb := gt_of (tm6 58 rfl) rfl
theorem w6_60 : Jvm.Cond.instanceMethod ({ cls := "MarkedChainsModel", name := "setOf", desc := "(II)I" } : Jvm.MethodName) ∈ gtb := gt_of (tm6 60 rfl) rfl
theorem w6_61 : Jvm.Cond.code ({ cls := "MarkedChainsModel", name := "setOf", desc := "(II)I" } : Jvm.MethodName) prog_8_method_60_code (5 : Nat) (Option.some Jvm.ClassFile.FieldType.int) ∈ gtb := gt_of (tm6 61 rfl) rfl
theorem w6_62 : Jvm.Cond.methodLink "MarkedChainsLaw" (82 : Nat) ({ cls := "MarkedChainsModel", name := "decision", desc := "(I)I" } : Jvm.MethodName) ∈ gtb := gt_of (tm6 62 rfl) rfl
theorem w6_63 : Jvm.Cond.instanceMethod ({ cls := "MarkedChainsModel", name := "decision", desc := "(I)I" } : Jvm.MethodName) ∈ gtb := gt_of (tm6 63 rfl) rfl
theorem w6_64 : Jvm.Cond.selects "MarkedChainsModel" ({ cls := "MarkedChainsModel", name := "decision", desc := "(I)I" } : Jvm.MethodName) ({ cls := "MarkedChainsModel", name := "decision", desc := "(I)I" } : Jvm.MethodName) ∈ gtb := gt_of (tm6 64 rfl) rfl
theorem w6_65 : Jvm.Cond.code ({ cls := "MarkedChainsModel", name := "decision", desc := "(I)I" } : Jvm.MethodName) prog_8_method_66_code (2 : Nat) (Option.some Jvm.ClassFile.FieldType.int) ∈ gtb := gt_of (tm6 65 rfl) rfl
theorem w6_66 : Jvm.Cond.methodLink "MarkedChainsModel" (318 : Nat) ({ cls := "MarkedChainsModel", name := "decisionOf", desc := "(I)I" } : Jvm.MethodName) ∈ gtb := gt_of (tm6 66 rfl) rfl
theorem w6_68 : Jvm.Cond.instanceMethod ({ cls := "MarkedChainsModel", name := "decisionOf", desc := "(I)I" } : Jvm.MethodName) ∈ gtb := gt_of (tm6 68 rfl) rfl
theorem w6_69 : Jvm.Cond.code ({ cls := "MarkedChainsModel", name := "decisionOf", desc := "(I)I" } : Jvm.MethodName) prog_8_method_61_code (3 : Nat) (Option.some Jvm.ClassFile.FieldType.int) ∈ gtb := gt_of (tm6 69 rfl) rfl
theorem w6_70 : Jvm.Cond.methodLink "MarkedChainsModel" (315 : Nat) ({ cls := "java/lang/Integer", name := "numberOfTrailingZeros", desc := "(I)I" } : Jvm.MethodName) ∈ gtb := gt_of (tm6 70 rfl) rfl
theorem w6_71 : Jvm.Cond.static ({ cls := "java/lang/Integer", name := "numberOfTrailingZeros", desc := "(I)I" } : Jvm.MethodName) ∈ gtb := gt_of (tm6 71 rfl) rfl
theorem w6_72 : Jvm.Cond.code ({ cls := "java/lang/Integer", name := "numberOfTrailingZeros", desc := "(I)I" } : Jvm.MethodName) prog_9_method_48_code (2 : Nat) (Option.some Jvm.ClassFile.FieldType.int) ∈ gtb := gt_of (tm6 72 rfl) rfl
theorem w6_73 : Jvm.Cond.constant "java/lang/Integer" (264 : Nat) (65536 : Int32) ∈ gtb := gt_of (tm6 73 rfl) rfl
theorem w6_74 : Jvm.Cond.methodLink "MarkedChainsLaw" (86 : Nat) ({ cls := "MarkedChainsModel", name := "extracted", desc := "(III)I" } : Jvm.MethodName) ∈ gtb := gt_of (tm6 74 rfl) rfl
theorem w6_75 : Jvm.Cond.instanceMethod ({ cls := "MarkedChainsModel", name := "extracted", desc := "(III)I" } : Jvm.MethodName) ∈ gtb := gt_of (tm6 75 rfl) rfl
theorem w6_76 : Jvm.Cond.selects "MarkedChainsModel" ({ cls := "MarkedChainsModel", name := "extracted", desc := "(III)I" } : Jvm.MethodName) ({ cls := "MarkedChainsModel", name := "extracted", desc := "(III)I" } : Jvm.MethodName) ∈ gtb := gt_of (tm6 76 rfl) rfl
theorem w6_77 : Jvm.Cond.code ({ cls := "MarkedChainsModel", name := "extracted", desc := "(III)I" } : Jvm.MethodName) prog_8_method_67_code (6 : Nat) (Option.some Jvm.ClassFile.FieldType.int) ∈ gtb := gt_of (tm6 77 rfl) rfl
theorem w6_78 : Jvm.Cond.methodLink "MarkedChainsLaw" (90 : Nat) ({ cls := "MarkedChainsModel", name := "letter", desc := "(II)I" } : Jvm.MethodName) ∈ gtb := gt_of (tm6 78 rfl) rfl
theorem w6_79 : Jvm.Cond.instanceMethod ({ cls := "MarkedChainsModel", name := "letter", desc := "(II)I" } : Jvm.MethodName) ∈ gtb := gt_of (tm6 79 rfl) rfl
theorem w6_80 : Jvm.Cond.selects "MarkedChainsModel" ({ cls := "MarkedChainsModel", name := "letter", desc := "(II)I" } : Jvm.MethodName) ({ cls := "MarkedChainsModel", name := "letter", desc := "(II)I" } : Jvm.MethodName) ∈ gtb := gt_of (tm6 80 rfl) rfl
theorem w6_81 : Jvm.Cond.code ({ cls := "MarkedChainsModel", name := "letter", desc := "(II)I" } : Jvm.MethodName) prog_8_method_68_code (3 : Nat) (Option.some Jvm.ClassFile.FieldType.int) ∈ gtb := gt_of (tm6 81 rfl) rfl
theorem w6_82 : Jvm.Cond.methodLink "MarkedChainsLaw" (94 : Nat) ({ cls := "MarkedChainsModel", name := "mark", desc := "(II)I" } : Jvm.MethodName) ∈ gtb := gt_of (tm6 82 rfl) rfl
theorem w6_83 : Jvm.Cond.instanceMethod ({ cls := "MarkedChainsModel", name := "mark", desc := "(II)I" } : Jvm.MethodName) ∈ gtb := gt_of (tm6 83 rfl) rfl
theorem w6_84 : Jvm.Cond.selects "MarkedChainsModel" ({ cls := "MarkedChainsModel", name := "mark", desc := "(II)I" } : Jvm.MethodName) ({ cls := "MarkedChainsModel", name := "mark", desc := "(II)I" } : Jvm.MethodName) ∈ gtb := gt_of (tm6 84 rfl) rfl
theorem w6_85 : Jvm.Cond.code ({ cls := "MarkedChainsModel", name := "mark", desc := "(II)I" } : Jvm.MethodName) prog_8_method_69_code (3 : Nat) (Option.some Jvm.ClassFile.FieldType.int) ∈ gtb := gt_of (tm6 85 rfl) rfl
theorem w6_86 : Jvm.Cond.methodLink "MarkedChainsLaw" (99 : Nat) ({ cls := "MarkedChainsModel", name := "packed", desc := "(I)J" } : Jvm.MethodName) ∈ gtb := gt_of (tm6 86 rfl) rfl
theorem w6_87 : Jvm.Cond.instanceMethod ({ cls := "MarkedChainsModel", name := "packed", desc := "(I)J" } : Jvm.MethodName) ∈ gtb := gt_of (tm6 87 rfl) rfl
theorem w6_88 : Jvm.Cond.selects "MarkedChainsModel" ({ cls := "MarkedChainsModel", name := "packed", desc := "(I)J" } : Jvm.MethodName) ({ cls := "MarkedChainsModel", name := "packed", desc := "(I)J" } : Jvm.MethodName) ∈ gtb := gt_of (tm6 88 rfl) rfl
theorem w6_89 : Jvm.Cond.code ({ cls := "MarkedChainsModel", name := "packed", desc := "(I)J" } : Jvm.MethodName) prog_8_method_70_code (5 : Nat) (Option.some Jvm.ClassFile.FieldType.long) ∈ gtb := gt_of (tm6 89 rfl) rfl
theorem w6_90 : Jvm.Cond.constantLong "MarkedChainsModel" (324 : Nat) (-1 : Int64) ∈ gtb := gt_of (tm6 90 rfl) rfl
theorem w6_91 : Jvm.Cond.constantLong "MarkedChainsModel" (326 : Nat) (9 : Int64) ∈ gtb := gt_of (tm6 91 rfl) rfl
theorem w6_92 : Jvm.Cond.methodLink "MarkedChainsLaw" (106 : Nat) ({ cls := "MarkedChainsModel", name := "open", desc := "(JI)I" } : Jvm.MethodName) ∈ gtb := gt_of (tm6 92 rfl) rfl
theorem w6_93 : Jvm.Cond.instanceMethod ({ cls := "MarkedChainsModel", name := "open", desc := "(JI)I" } : Jvm.MethodName) ∈ gtb := gt_of (tm6 93 rfl) rfl
theorem w6_94 : Jvm.Cond.selects "MarkedChainsModel" ({ cls := "MarkedChainsModel", name := "open", desc := "(JI)I" } : Jvm.MethodName) ({ cls := "MarkedChainsModel", name := "open", desc := "(JI)I" } : Jvm.MethodName) ∈ gtb := gt_of (tm6 94 rfl) rfl
theorem w6_95 : Jvm.Cond.code ({ cls := "MarkedChainsModel", name := "open", desc := "(JI)I" } : Jvm.MethodName) prog_8_method_71_code (10 : Nat) (Option.some Jvm.ClassFile.FieldType.int) ∈ gtb := gt_of (tm6 95 rfl) rfl
theorem w6_96 : Jvm.Cond.constantLong "MarkedChainsModel" (328 : Nat) (10 : Int64) ∈ gtb := gt_of (tm6 96 rfl) rfl
theorem w6_97 : Jvm.Cond.constantLong "MarkedChainsModel" (330 : Nat) (17 : Int64) ∈ gtb := gt_of (tm6 97 rfl) rfl
theorem w6_98 : Jvm.Cond.methodLink "MarkedChainsLaw" (110 : Nat) ({ cls := "MarkedChainsModel", name := "sent", desc := "(I)I" } : Jvm.MethodName) ∈ gtb := gt_of (tm6 98 rfl) rfl
theorem w6_99 : Jvm.Cond.instanceMethod ({ cls := "MarkedChainsModel", name := "sent", desc := "(I)I" } : Jvm.MethodName) ∈ gtb := gt_of (tm6 99 rfl) rfl
theorem w6_100 : Jvm.Cond.selects "MarkedChainsModel" ({ cls := "MarkedChainsModel", name := "sent", desc := "(I)I" } : Jvm.MethodName) ({ cls := "MarkedChainsModel", name := "sent", desc := "(I)I" } : Jvm.MethodName) ∈ gtb := gt_of (tm6 100 rfl) rfl
theorem w6_101 : Jvm.Cond.code ({ cls := "MarkedChainsModel", name := "sent", desc := "(I)I" } : Jvm.MethodName) prog_8_method_72_code (4 : Nat) (Option.some Jvm.ClassFile.FieldType.int) ∈ gtb := gt_of (tm6 101 rfl) rfl
theorem w6_102 : Jvm.Cond.methodLink "MarkedChainsLaw" (114 : Nat) ({ cls := "MarkedChainsModel", name := "forged", desc := "(I)I" } : Jvm.MethodName) ∈ gtb := gt_of (tm6 102 rfl) rfl
theorem w6_103 : Jvm.Cond.instanceMethod ({ cls := "MarkedChainsModel", name := "forged", desc := "(I)I" } : Jvm.MethodName) ∈ gtb := gt_of (tm6 103 rfl) rfl
theorem w6_104 : Jvm.Cond.selects "MarkedChainsModel" ({ cls := "MarkedChainsModel", name := "forged", desc := "(I)I" } : Jvm.MethodName) ({ cls := "MarkedChainsModel", name := "forged", desc := "(I)I" } : Jvm.MethodName) ∈ gtb := gt_of (tm6 104 rfl) rfl
theorem w6_105 : Jvm.Cond.code ({ cls := "MarkedChainsModel", name := "forged", desc := "(I)I" } : Jvm.MethodName) prog_8_method_73_code (2 : Nat) (Option.some Jvm.ClassFile.FieldType.int) ∈ gtb := gt_of (tm6 105 rfl) rfl
theorem w6_106 : Jvm.Cond.methodLink "MarkedChainsLaw" (118 : Nat) ({ cls := "MarkedChainsModel", name := "known", desc := "(II)I" } : Jvm.MethodName) ∈ gtb := gt_of (tm6 106 rfl) rfl
theorem w6_107 : Jvm.Cond.instanceMethod ({ cls := "MarkedChainsModel", name := "known", desc := "(II)I" } : Jvm.MethodName) ∈ gtb := gt_of (tm6 107 rfl) rfl
theorem w6_108 : Jvm.Cond.selects "MarkedChainsModel" ({ cls := "MarkedChainsModel", name := "known", desc := "(II)I" } : Jvm.MethodName) ({ cls := "MarkedChainsModel", name := "known", desc := "(II)I" } : Jvm.MethodName) ∈ gtb := gt_of (tm6 108 rfl) rfl
theorem w6_109 : Jvm.Cond.code ({ cls := "MarkedChainsModel", name := "known", desc := "(II)I" } : Jvm.MethodName) prog_8_method_74_code (3 : Nat) (Option.some Jvm.ClassFile.FieldType.int) ∈ gtb := gt_of (tm6 109 rfl) rfl
theorem w6_110 : Jvm.Cond.methodLink "MarkedChainsLaw" (122 : Nat) ({ cls := "MarkedChainsModel", name := "alike", desc := "()I" } : Jvm.MethodName) ∈ gtb := gt_of (tm6 110 rfl) rfl
theorem w6_111 : Jvm.Cond.instanceMethod ({ cls := "MarkedChainsModel", name := "alike", desc := "()I" } : Jvm.MethodName) ∈ gtb := gt_of (tm6 111 rfl) rfl
theorem w6_112 : Jvm.Cond.selects "MarkedChainsModel" ({ cls := "MarkedChainsModel", name := "alike", desc := "()I" } : Jvm.MethodName) ({ cls := "MarkedChainsModel", name := "alike", desc := "()I" } : Jvm.MethodName) ∈ gtb := gt_of (tm6 112 rfl) rfl
theorem w6_113 : Jvm.Cond.code ({ cls := "MarkedChainsModel", name := "alike", desc := "()I" } : Jvm.MethodName) prog_8_method_75_code (1 : Nat) (Option.some Jvm.ClassFile.FieldType.int) ∈ gtb := gt_of (tm6 113 rfl) rfl
theorem w6_114 : Jvm.Cond.methodLink "MarkedChainsModel" (332 : Nat) ({ cls := "MarkedChainsModel", name := "soundSet", desc := "()I" } : Jvm.MethodName) ∈ gtb := gt_of (tm6 114 rfl) rfl
theorem w6_116 : Jvm.Cond.instanceMethod ({ cls := "MarkedChainsModel", name := "soundSet", desc := "()I" } : Jvm.MethodName) ∈ gtb := gt_of (tm6 116 rfl) rfl
theorem w6_117 : Jvm.Cond.code ({ cls := "MarkedChainsModel", name := "soundSet", desc := "()I" } : Jvm.MethodName) prog_8_method_62_code (5 : Nat) (Option.some Jvm.ClassFile.FieldType.int) ∈ gtb := gt_of (tm6 117 rfl) rfl
theorem w6_118 : Jvm.Cond.methodLink "MarkedChainsModel" (335 : Nat) ({ cls := "MarkedChainsModel", name := "decideAlike", desc := "(I)Z" } : Jvm.MethodName) ∈ gtb := gt_of (tm6 118 rfl) rfl
theorem w6_120 : Jvm.Cond.instanceMethod ({ cls := "MarkedChainsModel", name := "decideAlike", desc := "(I)Z" } : Jvm.MethodName) ∈ gtb := gt_of (tm6 120 rfl) rfl
theorem w6_121 : Jvm.Cond.code ({ cls := "MarkedChainsModel", name := "decideAlike", desc := "(I)Z" } : Jvm.MethodName) prog_8_method_64_code (4 : Nat) (Option.some Jvm.ClassFile.FieldType.boolean) ∈ gtb := gt_of (tm6 121 rfl) rfl
theorem w6_122 : Jvm.Cond.methodLink "MarkedChainsLaw" (126 : Nat) ({ cls := "MarkedChainsModel", name := "valid", desc := "()I" } : Jvm.MethodName) ∈ gtb := gt_of (tm6 122 rfl) rfl
theorem w6_123 : Jvm.Cond.instanceMethod ({ cls := "MarkedChainsModel", name := "valid", desc := "()I" } : Jvm.MethodName) ∈ gtb := gt_of (tm6 123 rfl) rfl
theorem w6_124 : Jvm.Cond.selects "MarkedChainsModel" ({ cls := "MarkedChainsModel", name := "valid", desc := "()I" } : Jvm.MethodName) ({ cls := "MarkedChainsModel", name := "valid", desc := "()I" } : Jvm.MethodName) ∈ gtb := gt_of (tm6 124 rfl) rfl
theorem w6_125 : Jvm.Cond.code ({ cls := "MarkedChainsModel", name := "valid", desc := "()I" } : Jvm.MethodName) prog_8_method_76_code (3 : Nat) (Option.some Jvm.ClassFile.FieldType.int) ∈ gtb := gt_of (tm6 125 rfl) rfl
theorem w6_126 : Jvm.Cond.methodLink "MarkedChainsLaw" (130 : Nat) ({ cls := "MarkedChainsModel", name := "sound", desc := "()I" } : Jvm.MethodName) ∈ gtb := gt_of (tm6 126 rfl) rfl
theorem w6_127 : Jvm.Cond.instanceMethod ({ cls := "MarkedChainsModel", name := "sound", desc := "()I" } : Jvm.MethodName) ∈ gtb := gt_of (tm6 127 rfl) rfl
theorem w6_128 : Jvm.Cond.selects "MarkedChainsModel" ({ cls := "MarkedChainsModel", name := "sound", desc := "()I" } : Jvm.MethodName) ({ cls := "MarkedChainsModel", name := "sound", desc := "()I" } : Jvm.MethodName) ∈ gtb := gt_of (tm6 128 rfl) rfl
theorem w6_129 : Jvm.Cond.code ({ cls := "MarkedChainsModel", name := "sound", desc := "()I" } : Jvm.MethodName) prog_8_method_77_code (1 : Nat) (Option.some Jvm.ClassFile.FieldType.int) ∈ gtb := gt_of (tm6 129 rfl) rfl
theorem w6_130 : Jvm.Cond.methodLink "MarkedChainsLaw" (134 : Nat) ({ cls := "MarkedChainsModel", name := "parted", desc := "()I" } : Jvm.MethodName) ∈ gtb := gt_of (tm6 130 rfl) rfl
theorem w6_131 : Jvm.Cond.instanceMethod ({ cls := "MarkedChainsModel", name := "parted", desc := "()I" } : Jvm.MethodName) ∈ gtb := gt_of (tm6 131 rfl) rfl
theorem w6_132 : Jvm.Cond.selects "MarkedChainsModel" ({ cls := "MarkedChainsModel", name := "parted", desc := "()I" } : Jvm.MethodName) ({ cls := "MarkedChainsModel", name := "parted", desc := "()I" } : Jvm.MethodName) ∈ gtb := gt_of (tm6 132 rfl) rfl
theorem w6_133 : Jvm.Cond.code ({ cls := "MarkedChainsModel", name := "parted", desc := "()I" } : Jvm.MethodName) prog_8_method_79_code (4 : Nat) (Option.some Jvm.ClassFile.FieldType.int) ∈ gtb := gt_of (tm6 133 rfl) rfl
theorem w6_134 : Jvm.Cond.methodLink "MarkedChainsModel" (338 : Nat) ({ cls := "MarkedChainsModel", name := "leaves", desc := "(I)V" } : Jvm.MethodName) ∈ gtb := gt_of (tm6 134 rfl) rfl
theorem w6_136 : Jvm.Cond.instanceMethod ({ cls := "MarkedChainsModel", name := "leaves", desc := "(I)V" } : Jvm.MethodName) ∈ gtb := gt_of (tm6 136 rfl) rfl
theorem w6_137 : Jvm.Cond.code ({ cls := "MarkedChainsModel", name := "leaves", desc := "(I)V" } : Jvm.MethodName) prog_8_method_78_code (3 : Nat) (Option.none : Option Jvm.ClassFile.FieldType) ∈ gtb := gt_of (tm6 137 rfl) rfl
theorem w6_138 : Jvm.Cond.methodLink "MarkedChainsLaw" (138 : Nat) ({ cls := "MarkedChainsModel", name := "slack", desc := "(III)I" } : Jvm.MethodName) ∈ gtb := gt_of (tm6 138 rfl) rfl
theorem w6_139 : Jvm.Cond.instanceMethod ({ cls := "MarkedChainsModel", name := "slack", desc := "(III)I" } : Jvm.MethodName) ∈ gtb := gt_of (tm6 139 rfl) rfl
theorem w6_140 : Jvm.Cond.selects "MarkedChainsModel" ({ cls := "MarkedChainsModel", name := "slack", desc := "(III)I" } : Jvm.MethodName) ({ cls := "MarkedChainsModel", name := "slack", desc := "(III)I" } : Jvm.MethodName) ∈ gtb := gt_of (tm6 140 rfl) rfl
theorem w6_141 : Jvm.Cond.code ({ cls := "MarkedChainsModel", name := "slack", desc := "(III)I" } : Jvm.MethodName) prog_8_method_82_code (9 : Nat) (Option.some Jvm.ClassFile.FieldType.int) ∈ gtb := gt_of (tm6 141 rfl) rfl
theorem w6_142 : Jvm.Cond.methodLink "MarkedChainsModel" (341 : Nat) ({ cls := "MarkedChainsModel", name := "marksDecisions", desc := "()V" } : Jvm.MethodName) ∈ gtb := gt_of (tm6 142 rfl) rfl
theorem w6_144 : Jvm.Cond.instanceMethod ({ cls := "MarkedChainsModel", name := "marksDecisions", desc := "()V" } : Jvm.MethodName) ∈ gtb := gt_of (tm6 144 rfl) rfl
theorem w6_145 : Jvm.Cond.code ({ cls := "MarkedChainsModel", name := "marksDecisions", desc := "()V" } : Jvm.MethodName) prog_8_method_80_code (2 : Nat) (Option.none : Option Jvm.ClassFile.FieldType) ∈ gtb := gt_of (tm6 145 rfl) rfl
theorem w6_146 : Jvm.Cond.methodLink "MarkedChainsModel" (344 : Nat) ({ cls := "MarkedChainsModel", name := "faultsAside", desc := "(IIII)V" } : Jvm.MethodName) ∈ gtb := gt_of (tm6 146 rfl) rfl
theorem w6_148 : Jvm.Cond.instanceMethod ({ cls := "MarkedChainsModel", name := "faultsAside", desc := "(IIII)V" } : Jvm.MethodName) ∈ gtb := gt_of (tm6 148 rfl) rfl
theorem w6_149 : Jvm.Cond.code ({ cls := "MarkedChainsModel", name := "faultsAside", desc := "(IIII)V" } : Jvm.MethodName) prog_8_method_83_code (5 : Nat) (Option.none : Option Jvm.ClassFile.FieldType) ∈ gtb := gt_of (tm6 149 rfl) rfl
theorem w6_150 : Jvm.Cond.methodLink "MarkedChainsModel" (347 : Nat) ({ cls := "MarkedChainsModel", name := "isAsItWas", desc := "()Z" } : Jvm.MethodName) ∈ gtb := gt_of (tm6 150 rfl) rfl
theorem w6_152 : Jvm.Cond.instanceMethod ({ cls := "MarkedChainsModel", name := "isAsItWas", desc := "()Z" } : Jvm.MethodName) ∈ gtb := gt_of (tm6 152 rfl) rfl
theorem w6_153 : Jvm.Cond.code ({ cls := "MarkedChainsModel", name := "isAsItWas", desc := "()Z" } : Jvm.MethodName) prog_8_method_81_code (3 : Nat) (Option.some Jvm.ClassFile.FieldType.boolean) ∈ gtb := gt_of (tm6 153 rfl) rfl
theorem w6_154 : Jvm.Cond.methodLink "MarkedChainsLaw" (142 : Nat) ({ cls := "MarkedChainsModel", name := "crucial", desc := "(II)I" } : Jvm.MethodName) ∈ gtb := gt_of (tm6 154 rfl) rfl
theorem w6_155 : Jvm.Cond.instanceMethod ({ cls := "MarkedChainsModel", name := "crucial", desc := "(II)I" } : Jvm.MethodName) ∈ gtb := gt_of (tm6 155 rfl) rfl
theorem w6_156 : Jvm.Cond.selects "MarkedChainsModel" ({ cls := "MarkedChainsModel", name := "crucial", desc := "(II)I" } : Jvm.MethodName) ({ cls := "MarkedChainsModel", name := "crucial", desc := "(II)I" } : Jvm.MethodName) ∈ gtb := gt_of (tm6 156 rfl) rfl
theorem w6_157 : Jvm.Cond.code ({ cls := "MarkedChainsModel", name := "crucial", desc := "(II)I" } : Jvm.MethodName) prog_8_method_84_code (7 : Nat) (Option.some Jvm.ClassFile.FieldType.int) ∈ gtb := gt_of (tm6 157 rfl) rfl
theorem w6_158 : Jvm.Cond.methodLink "MarkedChainsLaw" (146 : Nat) ({ cls := "MarkedChainsModel", name := "least", desc := "()I" } : Jvm.MethodName) ∈ gtb := gt_of (tm6 158 rfl) rfl
theorem w6_159 : Jvm.Cond.instanceMethod ({ cls := "MarkedChainsModel", name := "least", desc := "()I" } : Jvm.MethodName) ∈ gtb := gt_of (tm6 159 rfl) rfl
theorem w6_160 : Jvm.Cond.selects "MarkedChainsModel" ({ cls := "MarkedChainsModel", name := "least", desc := "()I" } : Jvm.MethodName) ({ cls := "MarkedChainsModel", name := "least", desc := "()I" } : Jvm.MethodName) ∈ gtb := gt_of (tm6 160 rfl) rfl
theorem w6_161 : Jvm.Cond.code ({ cls := "MarkedChainsModel", name := "least", desc := "()I" } : Jvm.MethodName) prog_8_method_85_code (4 : Nat) (Option.some Jvm.ClassFile.FieldType.int) ∈ gtb := gt_of (tm6 161 rfl) rfl
theorem w6_162 : Jvm.Cond.methodLink "MarkedChainsLaw" (174 : Nat) ({ cls := "MarkedChainsModel", name := "heal", desc := "()I" } : Jvm.MethodName) ∈ gtb := gt_of (tm6 162 rfl) rfl
theorem w6_163 : Jvm.Cond.instanceMethod ({ cls := "MarkedChainsModel", name := "heal", desc := "()I" } : Jvm.MethodName) ∈ gtb := gt_of (tm6 163 rfl) rfl
theorem w6_164 : Jvm.Cond.selects "MarkedChainsModel" ({ cls := "MarkedChainsModel", name := "heal", desc := "()I" } : Jvm.MethodName) ({ cls := "MarkedChainsModel", name := "heal", desc := "()I" } : Jvm.MethodName) ∈ gtb := gt_of (tm6 164 rfl) rfl
theorem w6_165 : Jvm.Cond.code ({ cls := "MarkedChainsModel", name := "heal", desc := "()I" } : Jvm.MethodName) prog_8_method_86_code (6 : Nat) (Option.some Jvm.ClassFile.FieldType.int) ∈ gtb := gt_of (tm6 165 rfl) rfl
theorem w6_166 : Jvm.Cond.methodLink "MarkedChainsModel" (350 : Nat) ({ cls := "MarkedChainsModel", name := "honestSet", desc := "()I" } : Jvm.MethodName) ∈ gtb := gt_of (tm6 166 rfl) rfl
theorem w6_168 : Jvm.Cond.instanceMethod ({ cls := "MarkedChainsModel", name := "honestSet", desc := "()I" } : Jvm.MethodName) ∈ gtb := gt_of (tm6 168 rfl) rfl
theorem w6_169 : Jvm.Cond.code ({ cls := "MarkedChainsModel", name := "honestSet", desc := "()I" } : Jvm.MethodName) prog_8_method_63_code (3 : Nat) (Option.some Jvm.ClassFile.FieldType.int) ∈ gtb := gt_of (tm6 169 rfl) rfl
theorem w6_170 : Jvm.Cond.methodLink "MarkedChainsLaw" (150 : Nat) ({ cls := "MarkedChainsModel", name := "holders", desc := "(II)I" } : Jvm.MethodName) ∈ gtb := gt_of (tm6 170 rfl) rfl
theorem w6_171 : Jvm.Cond.instanceMethod ({ cls := "MarkedChainsModel", name := "holders", desc := "(II)I" } : Jvm.MethodName) ∈ gtb := gt_of (tm6 171 rfl) rfl
theorem w6_172 : Jvm.Cond.selects "MarkedChainsModel" ({ cls := "MarkedChainsModel", name := "holders", desc := "(II)I" } : Jvm.MethodName) ({ cls := "MarkedChainsModel", name := "holders", desc := "(II)I" } : Jvm.MethodName) ∈ gtb := gt_of (tm6 172 rfl) rfl
theorem w6_173 : Jvm.Cond.code ({ cls := "MarkedChainsModel", name := "holders", desc := "(II)I" } : Jvm.MethodName) prog_8_method_87_code (5 : Nat) (Option.some Jvm.ClassFile.FieldType.int) ∈ gtb := gt_of (tm6 173 rfl) rfl
theorem w6_174 : Jvm.Cond.methodLink "MarkedChainsLaw" (154 : Nat) ({ cls := "MarkedChainsModel", name := "path", desc := "(III)I" } : Jvm.MethodName) ∈ gtb := gt_of (tm6 174 rfl) rfl
theorem w6_175 : Jvm.Cond.instanceMethod ({ cls := "MarkedChainsModel", name := "path", desc := "(III)I" } : Jvm.MethodName) ∈ gtb := gt_of (tm6 175 rfl) rfl
theorem w6_176 : Jvm.Cond.selects "MarkedChainsModel" ({ cls := "MarkedChainsModel", name := "path", desc := "(III)I" } : Jvm.MethodName) ({ cls := "MarkedChainsModel", name := "path", desc := "(III)I" } : Jvm.MethodName) ∈ gtb := gt_of (tm6 176 rfl) rfl
theorem w6_177 : Jvm.Cond.code ({ cls := "MarkedChainsModel", name := "path", desc := "(III)I" } : Jvm.MethodName) prog_8_method_88_code (6 : Nat) (Option.some Jvm.ClassFile.FieldType.int) ∈ gtb := gt_of (tm6 177 rfl) rfl
theorem w6_178 : Jvm.Cond.methodLink "MarkedChainsLaw" (158 : Nat) ({ cls := "MarkedChainsModel", name := "caught", desc := "(I)I" } : Jvm.MethodName) ∈ gtb := gt_of (tm6 178 rfl) rfl
theorem w6_179 : Jvm.Cond.instanceMethod ({ cls := "MarkedChainsModel", name := "caught", desc := "(I)I" } : Jvm.MethodName) ∈ gtb := gt_of (tm6 179 rfl) rfl
theorem w6_180 : Jvm.Cond.selects "MarkedChainsModel" ({ cls := "MarkedChainsModel", name := "caught", desc := "(I)I" } : Jvm.MethodName) ({ cls := "MarkedChainsModel", name := "caught", desc := "(I)I" } : Jvm.MethodName) ∈ gtb := gt_of (tm6 180 rfl) rfl
theorem w6_181 : Jvm.Cond.code ({ cls := "MarkedChainsModel", name := "caught", desc := "(I)I" } : Jvm.MethodName) prog_8_method_90_code (5 : Nat) (Option.some Jvm.ClassFile.FieldType.int) ∈ gtb := gt_of (tm6 181 rfl) rfl
theorem w6_182 : Jvm.Cond.methodLink "MarkedChainsModel" (353 : Nat) ({ cls := "MarkedChainsModel", name := "bears", desc := "(II)Z" } : Jvm.MethodName) ∈ gtb := gt_of (tm6 182 rfl) rfl
theorem w6_184 : Jvm.Cond.instanceMethod ({ cls := "MarkedChainsModel", name := "bears", desc := "(II)Z" } : Jvm.MethodName) ∈ gtb := gt_of (tm6 184 rfl) rfl
theorem w6_185 : Jvm.Cond.code ({ cls := "MarkedChainsModel", name := "bears", desc := "(II)Z" } : Jvm.MethodName) prog_8_method_89_code (4 : Nat) (Option.some Jvm.ClassFile.FieldType.boolean) ∈ gtb := gt_of (tm6 185 rfl) rfl
theorem w6_186 : Jvm.Cond.methodLink "MarkedChainsLaw" (162 : Nat) ({ cls := "MarkedChainsModel", name := "bits", desc := "(I)I" } : Jvm.MethodName) ∈ gtb := gt_of (tm6 186 rfl) rfl
theorem w6_187 : Jvm.Cond.instanceMethod ({ cls := "MarkedChainsModel", name := "bits", desc := "(I)I" } : Jvm.MethodName) ∈ gtb := gt_of (tm6 187 rfl) rfl
theorem w6_188 : Jvm.Cond.selects "MarkedChainsModel" ({ cls := "MarkedChainsModel", name := "bits", desc := "(I)I" } : Jvm.MethodName) ({ cls := "MarkedChainsModel", name := "bits", desc := "(I)I" } : Jvm.MethodName) ∈ gtb := gt_of (tm6 188 rfl) rfl
theorem w6_189 : Jvm.Cond.code ({ cls := "MarkedChainsModel", name := "bits", desc := "(I)I" } : Jvm.MethodName) prog_8_method_91_code (6 : Nat) (Option.some Jvm.ClassFile.FieldType.int) ∈ gtb := gt_of (tm6 189 rfl) rfl
theorem w6_190 : Jvm.Cond.methodLink "MarkedChainsModel" (356 : Nat) ({ cls := "java/lang/Math", name := "max", desc := "(II)I" } : Jvm.MethodName) ∈ gtb := gt_of (tm6 190 rfl) rfl
theorem w6_191 : Jvm.Cond.methodLink "MarkedChainsLaw" (166 : Nat) ({ cls := "MarkedChainsModel", name := "load", desc := "(II)I" } : Jvm.MethodName) ∈ gtb := gt_of (tm6 191 rfl) rfl
theorem w6_192 : Jvm.Cond.instanceMethod ({ cls := "MarkedChainsModel", name := "load", desc := "(II)I" } : Jvm.MethodName) ∈ gtb := gt_of (tm6 192 rfl) rfl
theorem w6_193 : Jvm.Cond.selects "MarkedChainsModel" ({ cls := "MarkedChainsModel", name := "load", desc := "(II)I" } : Jvm.MethodName) ({ cls := "MarkedChainsModel", name := "load", desc := "(II)I" } : Jvm.MethodName) ∈ gtb := gt_of (tm6 193 rfl) rfl
theorem w6_194 : Jvm.Cond.code ({ cls := "MarkedChainsModel", name := "load", desc := "(II)I" } : Jvm.MethodName) prog_8_method_93_code (6 : Nat) (Option.some Jvm.ClassFile.FieldType.int) ∈ gtb := gt_of (tm6 194 rfl) rfl
theorem w6_195 : Jvm.Cond.methodLink "MarkedChainsModel" (359 : Nat) ({ cls := "MarkedChainsModel", name := "loadOf", desc := "(II)I" } : Jvm.MethodName) ∈ gtb := gt_of (tm6 195 rfl) rfl
theorem w6_197 : Jvm.Cond.instanceMethod ({ cls := "MarkedChainsModel", name := "loadOf", desc := "(II)I" } : Jvm.MethodName) ∈ gtb := gt_of (tm6 197 rfl) rfl
theorem w6_198 : Jvm.Cond.code ({ cls := "MarkedChainsModel", name := "loadOf", desc := "(II)I" } : Jvm.MethodName) prog_8_method_92_code (5 : Nat) (Option.some Jvm.ClassFile.FieldType.int) ∈ gtb := gt_of (tm6 198 rfl) rfl
theorem w6_199 : Jvm.Cond.methodLink "MarkedChainsLaw" (170 : Nat) ({ cls := "MarkedChainsModel", name := "calm", desc := "(I)I" } : Jvm.MethodName) ∈ gtb := gt_of (tm6 199 rfl) rfl
theorem w6_200 : Jvm.Cond.instanceMethod ({ cls := "MarkedChainsModel", name := "calm", desc := "(I)I" } : Jvm.MethodName) ∈ gtb := gt_of (tm6 200 rfl) rfl
theorem w6_201 : Jvm.Cond.selects "MarkedChainsModel" ({ cls := "MarkedChainsModel", name := "calm", desc := "(I)I" } : Jvm.MethodName) ({ cls := "MarkedChainsModel", name := "calm", desc := "(I)I" } : Jvm.MethodName) ∈ gtb := gt_of (tm6 201 rfl) rfl
theorem w6_202 : Jvm.Cond.code ({ cls := "MarkedChainsModel", name := "calm", desc := "(I)I" } : Jvm.MethodName) prog_8_method_95_code (4 : Nat) (Option.some Jvm.ClassFile.FieldType.int) ∈ gtb := gt_of (tm6 202 rfl) rfl
theorem w6_203 : Jvm.Cond.methodLink "MarkedChainsModel" (362 : Nat) ({ cls := "MarkedChainsModel", name := "isCalm", desc := "(II)Z" } : Jvm.MethodName) ∈ gtb := gt_of (tm6 203 rfl) rfl
theorem w6_205 : Jvm.Cond.instanceMethod ({ cls := "MarkedChainsModel", name := "isCalm", desc := "(II)Z" } : Jvm.MethodName) ∈ gtb := gt_of (tm6 205 rfl) rfl
theorem w6_206 : Jvm.Cond.code ({ cls := "MarkedChainsModel", name := "isCalm", desc := "(II)Z" } : Jvm.MethodName) prog_8_method_94_code (6 : Nat) (Option.some Jvm.ClassFile.FieldType.boolean) ∈ gtb := gt_of (tm6 206 rfl) rfl
theorem w6_207 : Jvm.Cond.methodLink "MarkedChainsLaw" (178 : Nat) ({ cls := "MarkedChainsModel", name := "count", desc := "(I)I" } : Jvm.MethodName) ∈ gtb := gt_of (tm6 207 rfl) rfl
theorem w6_208 : Jvm.Cond.instanceMethod ({ cls := "MarkedChainsModel", name := "count", desc := "(I)I" } : Jvm.MethodName) ∈ gtb := gt_of (tm6 208 rfl) rfl
theorem w6_209 : Jvm.Cond.selects "MarkedChainsModel" ({ cls := "MarkedChainsModel", name := "count", desc := "(I)I" } : Jvm.MethodName) ({ cls := "MarkedChainsModel", name := "count", desc := "(I)I" } : Jvm.MethodName) ∈ gtb := gt_of (tm6 209 rfl) rfl
theorem w6_210 : Jvm.Cond.code ({ cls := "MarkedChainsModel", name := "count", desc := "(I)I" } : Jvm.MethodName) prog_8_method_97_code (2 : Nat) (Option.some Jvm.ClassFile.FieldType.int) ∈ gtb := gt_of (tm6 210 rfl) rfl
theorem w6_211 : Jvm.Cond.methodLink "MarkedChainsModel" (365 : Nat) ({ cls := "MarkedChainsModel", name := "wanting", desc := "()I" } : Jvm.MethodName) ∈ gtb := gt_of (tm6 211 rfl) rfl
theorem w6_213 : Jvm.Cond.instanceMethod ({ cls := "MarkedChainsModel", name := "wanting", desc := "()I" } : Jvm.MethodName) ∈ gtb := gt_of (tm6 213 rfl) rfl
theorem w6_214 : Jvm.Cond.code ({ cls := "MarkedChainsModel", name := "wanting", desc := "()I" } : Jvm.MethodName) prog_8_method_96_code (3 : Nat) (Option.some Jvm.ClassFile.FieldType.int) ∈ gtb := gt_of (tm6 214 rfl) rfl
theorem w6_215 : Jvm.Cond.methodLink "MarkedChainsLaw" (182 : Nat) ({ cls := "MarkedChainsModel", name := "planned", desc := "(II)I" } : Jvm.MethodName) ∈ gtb := gt_of (tm6 215 rfl) rfl
theorem w6_216 : Jvm.Cond.instanceMethod ({ cls := "MarkedChainsModel", name := "planned", desc := "(II)I" } : Jvm.MethodName) ∈ gtb := gt_of (tm6 216 rfl) rfl
theorem w6_217 : Jvm.Cond.selects "MarkedChainsModel" ({ cls := "MarkedChainsModel", name := "planned", desc := "(II)I" } : Jvm.MethodName) ({ cls := "MarkedChainsModel", name := "planned", desc := "(II)I" } : Jvm.MethodName) ∈ gtb := gt_of (tm6 217 rfl) rfl
theorem w6_218 : Jvm.Cond.code ({ cls := "MarkedChainsModel", name := "planned", desc := "(II)I" } : Jvm.MethodName) prog_8_method_98_code (6 : Nat) (Option.some Jvm.ClassFile.FieldType.int) ∈ gtb := gt_of (tm6 218 rfl) rfl
theorem w6_219 : Jvm.Cond.methodLink "MarkedChainsLaw" (186 : Nat) ({ cls := "MarkedChainsModel", name := "fault", desc := "(III)I" } : Jvm.MethodName) ∈ gtb := gt_of (tm6 219 rfl) rfl
theorem w6_220 : Jvm.Cond.instanceMethod ({ cls := "MarkedChainsModel", name := "fault", desc := "(III)I" } : Jvm.MethodName) ∈ gtb := gt_of (tm6 220 rfl) rfl
theorem w6_221 : Jvm.Cond.selects "MarkedChainsModel" ({ cls := "MarkedChainsModel", name := "fault", desc := "(III)I" } : Jvm.MethodName) ({ cls := "MarkedChainsModel", name := "fault", desc := "(III)I" } : Jvm.MethodName) ∈ gtb := gt_of (tm6 221 rfl) rfl
theorem w6_222 : Jvm.Cond.code ({ cls := "MarkedChainsModel", name := "fault", desc := "(III)I" } : Jvm.MethodName) prog_8_method_99_code (4 : Nat) (Option.some Jvm.ClassFile.FieldType.int) ∈ gtb := gt_of (tm6 222 rfl) rfl
theorem w6_223 : Jvm.Cond.constantLong "MarkedChainsLaw" (100 : Nat) (4294967295 : Int64) ∈ gtb := gt_of (tm6 223 rfl) rfl
theorem w6_224 : Jvm.Cond.fieldLink "java/lang/String" (9 : Nat) "java/lang/String" "value" "[B" ∈ gtb := gt_of (tm6 224 rfl) rfl
theorem w6_225 : Jvm.Cond.fieldLink "java/lang/String" (15 : Nat) "java/lang/String" "coder" "B" ∈ gtb := gt_of (tm6 225 rfl) rfl
theorem ws_MC_replay : Cond.selects y_MC_replay.cls y_MC_replay y_MC_replay ∈ gtb := gt_of (tmS 0 (q := (y_MC_replay, 8)) rfl) rfl
theorem ws_Run_begin : Cond.selects y_Run_begin.cls y_Run_begin y_Run_begin ∈ gtb := gt_of (tmS 1 (q := (y_Run_begin, 16)) rfl) rfl
theorem ws_Run_sendFirst : Cond.selects y_Run_sendFirst.cls y_Run_sendFirst y_Run_sendFirst ∈ gtb := gt_of (tmS 2 (q := (y_Run_sendFirst, 16)) rfl) rfl
theorem ws_Run_sendOthers : Cond.selects y_Run_sendOthers.cls y_Run_sendOthers y_Run_sendOthers ∈ gtb := gt_of (tmS 3 (q := (y_Run_sendOthers, 16)) rfl) rfl
theorem ws_Run_post : Cond.selects y_Run_post.cls y_Run_post y_Run_post ∈ gtb := gt_of (tmS 4 (q := (y_Run_post, 16)) rfl) rfl
theorem ws_Run_relayAll : Cond.selects y_Run_relayAll.cls y_Run_relayAll y_Run_relayAll ∈ gtb := gt_of (tmS 5 (q := (y_Run_relayAll, 16)) rfl) rfl
theorem ws_Run_sendPlans : Cond.selects y_Run_sendPlans.cls y_Run_sendPlans y_Run_sendPlans ∈ gtb := gt_of (tmS 6 (q := (y_Run_sendPlans, 16)) rfl) rfl
theorem ws_Run_canMark : Cond.selects y_Run_canMark.cls y_Run_canMark y_Run_canMark ∈ gtb := gt_of (tmS 7 (q := (y_Run_canMark, 16)) rfl) rfl
theorem ws_Run_readAll : Cond.selects y_Run_readAll.cls y_Run_readAll y_Run_readAll ∈ gtb := gt_of (tmS 8 (q := (y_Run_readAll, 16)) rfl) rfl
theorem ws_Run_learn : Cond.selects y_Run_learn.cls y_Run_learn y_Run_learn ∈ gtb := gt_of (tmS 9 (q := (y_Run_learn, 16)) rfl) rfl
theorem ws_Run_counts : Cond.selects y_Run_counts.cls y_Run_counts y_Run_counts ∈ gtb := gt_of (tmS 10 (q := (y_Run_counts, 16)) rfl) rfl
theorem ws_Run_takes : Cond.selects y_Run_takes.cls y_Run_takes y_Run_takes ∈ gtb := gt_of (tmS 11 (q := (y_Run_takes, 16)) rfl) rfl
theorem ws_Tape_readWord : Cond.selects y_Tape_readWord.cls y_Tape_readWord y_Tape_readWord ∈ gtb := gt_of (tmS 12 (q := (y_Tape_readWord, 6)) rfl) rfl
theorem ws_Tape_skipBlanks : Cond.selects y_Tape_skipBlanks.cls y_Tape_skipBlanks y_Tape_skipBlanks ∈ gtb := gt_of (tmS 13 (q := (y_Tape_skipBlanks, 6)) rfl) rfl
theorem ws_Tape_isWord : Cond.selects y_Tape_isWord.cls y_Tape_isWord y_Tape_isWord ∈ gtb := gt_of (tmS 14 (q := (y_Tape_isWord, 6)) rfl) rfl
theorem ws_Tape_blame : Cond.selects y_Tape_blame.cls y_Tape_blame y_Tape_blame ∈ gtb := gt_of (tmS 15 (q := (y_Tape_blame, 6)) rfl) rfl
theorem ws_Tape_readNumber : Cond.selects y_Tape_readNumber.cls y_Tape_readNumber y_Tape_readNumber ∈ gtb := gt_of (tmS 16 (q := (y_Tape_readNumber, 6)) rfl) rfl
theorem ws_Tape_readSign : Cond.selects y_Tape_readSign.cls y_Tape_readSign y_Tape_readSign ∈ gtb := gt_of (tmS 17 (q := (y_Tape_readSign, 6)) rfl) rfl
theorem ws_Tape_readPart : Cond.selects y_Tape_readPart.cls y_Tape_readPart y_Tape_readPart ∈ gtb := gt_of (tmS 18 (q := (y_Tape_readPart, 6)) rfl) rfl
theorem ws_Tape_partOf : Cond.selects y_Tape_partOf.cls y_Tape_partOf y_Tape_partOf ∈ gtb := gt_of (tmS 19 (q := (y_Tape_partOf, 6)) rfl) rfl
theorem ws_Tape_readLiars : Cond.selects y_Tape_readLiars.cls y_Tape_readLiars y_Tape_readLiars ∈ gtb := gt_of (tmS 20 (q := (y_Tape_readLiars, 6)) rfl) rfl
theorem ws_Tape_readParty : Cond.selects y_Tape_readParty.cls y_Tape_readParty y_Tape_readParty ∈ gtb := gt_of (tmS 21 (q := (y_Tape_readParty, 6)) rfl) rfl
theorem ws_Tape_hasNumber : Cond.selects y_Tape_hasNumber.cls y_Tape_hasNumber y_Tape_hasNumber ∈ gtb := gt_of (tmS 22 (q := (y_Tape_hasNumber, 6)) rfl) rfl
theorem ws_Tape_readLetter : Cond.selects y_Tape_readLetter.cls y_Tape_readLetter y_Tape_readLetter ∈ gtb := gt_of (tmS 23 (q := (y_Tape_readLetter, 6)) rfl) rfl
theorem ws_Tape_readRoute : Cond.selects y_Tape_readRoute.cls y_Tape_readRoute y_Tape_readRoute ∈ gtb := gt_of (tmS 24 (q := (y_Tape_readRoute, 6)) rfl) rfl
theorem ws_Tape_readOmit : Cond.selects y_Tape_readOmit.cls y_Tape_readOmit y_Tape_readOmit ∈ gtb := gt_of (tmS 25 (q := (y_Tape_readOmit, 6)) rfl) rfl
theorem ws_Tape_readLate : Cond.selects y_Tape_readLate.cls y_Tape_readLate y_Tape_readLate ∈ gtb := gt_of (tmS 26 (q := (y_Tape_readLate, 6)) rfl) rfl
theorem ws_MC_remember : Cond.selects y_MC_remember.cls y_MC_remember y_MC_remember ∈ gtb := gt_of (tmS 27 (q := (y_MC_remember, 8)) rfl) rfl
theorem ws_MC_forgetOldest : Cond.selects y_MC_forgetOldest.cls y_MC_forgetOldest y_MC_forgetOldest ∈ gtb := gt_of (tmS 28 (q := (y_MC_forgetOldest, 8)) rfl) rfl
theorem ws_MC_hasRoundBehind : Cond.selects y_MC_hasRoundBehind.cls y_MC_hasRoundBehind y_MC_hasRoundBehind ∈ gtb := gt_of (tmS 29 (q := (y_MC_hasRoundBehind, 8)) rfl) rfl
theorem ws_MC_hasLetter : Cond.selects y_MC_hasLetter.cls y_MC_hasLetter y_MC_hasLetter ∈ gtb := gt_of (tmS 30 (q := (y_MC_hasLetter, 8)) rfl) rfl
theorem ws_Run_bitsOfLetter : Cond.selects y_Run_bitsOfLetter.cls y_Run_bitsOfLetter y_Run_bitsOfLetter ∈ gtb := gt_of (tmS 31 (q := (y_Run_bitsOfLetter, 16)) rfl) rfl
theorem ws_Run_someSetChanges : Cond.selects y_Run_someSetChanges.cls y_Run_someSetChanges y_Run_someSetChanges ∈ gtb := gt_of (tmS 32 (q := (y_Run_someSetChanges, 16)) rfl) rfl
theorem ws_Run_haveOneSet : Cond.selects y_Run_haveOneSet.cls y_Run_haveOneSet y_Run_haveOneSet ∈ gtb := gt_of (tmS 33 (q := (y_Run_haveOneSet, 16)) rfl) rfl
theorem ws_MC_partsWith : Cond.selects y_MC_partsWith.cls y_MC_partsWith y_MC_partsWith ∈ gtb := gt_of (tmS 34 (q := (y_MC_partsWith, 8)) rfl) rfl
theorem ws_MC_changesDecisions : Cond.selects y_MC_changesDecisions.cls y_MC_changesDecisions y_MC_changesDecisions ∈ gtb := gt_of (tmS 35 (q := (y_MC_changesDecisions, 8)) rfl) rfl
theorem ws_MC_isCrucial : Cond.selects y_MC_isCrucial.cls y_MC_isCrucial y_MC_isCrucial ∈ gtb := gt_of (tmS 36 (q := (y_MC_isCrucial, 8)) rfl) rfl
theorem ws_MC_healsWithout : Cond.selects y_MC_healsWithout.cls y_MC_healsWithout y_MC_healsWithout ∈ gtb := gt_of (tmS 37 (q := (y_MC_healsWithout, 8)) rfl) rfl
theorem ws_MM_puts : Cond.selects y_MM_puts.cls y_MM_puts y_MM_puts ∈ gtb := gt_of (tmS 38 (q := (y_MM_puts, 32)) rfl) rfl
theorem ws_MM_takes : Cond.selects y_MM_takes.cls y_MM_takes y_MM_takes ∈ gtb := gt_of (tmS 39 (q := (y_MM_takes, 32)) rfl) rfl
theorem ws_MM_next : Cond.selects y_MM_next.cls y_MM_next y_MM_next ∈ gtb := gt_of (tmS 40 (q := (y_MM_next, 32)) rfl) rfl
theorem ws_MM_sign : Cond.selects y_MM_sign.cls y_MM_sign y_MM_sign ∈ gtb := gt_of (tmS 41 (q := (y_MM_sign, 32)) rfl) rfl
theorem ws_MM_fails : Cond.selects y_MM_fails.cls y_MM_fails y_MM_fails ∈ gtb := gt_of (tmS 42 (q := (y_MM_fails, 32)) rfl) rfl
theorem ws_MM_isRight : Cond.selects y_MM_isRight.cls y_MM_isRight y_MM_isRight ∈ gtb := gt_of (tmS 43 (q := (y_MM_isRight, 32)) rfl) rfl
theorem ws_MM_number : Cond.selects y_MM_number.cls y_MM_number y_MM_number ∈ gtb := gt_of (tmS 44 (q := (y_MM_number, 32)) rfl) rfl
theorem ws_MM_isDigit : Cond.selects y_MM_isDigit.cls y_MM_isDigit y_MM_isDigit ∈ gtb := gt_of (tmS 45 (q := (y_MM_isDigit, 32)) rfl) rfl
theorem ws_MM_readsPart : Cond.selects y_MM_readsPart.cls y_MM_readsPart y_MM_readsPart ∈ gtb := gt_of (tmS 46 (q := (y_MM_readsPart, 32)) rfl) rfl
theorem ws_MM_party : Cond.selects y_MM_party.cls y_MM_party y_MM_party ∈ gtb := gt_of (tmS 47 (q := (y_MM_party, 32)) rfl) rfl
theorem ws_MM_readsLiars : Cond.selects y_MM_readsLiars.cls y_MM_readsLiars y_MM_readsLiars ∈ gtb := gt_of (tmS 48 (q := (y_MM_readsLiars, 32)) rfl) rfl
theorem ws_MM_readsLetter : Cond.selects y_MM_readsLetter.cls y_MM_readsLetter y_MM_readsLetter ∈ gtb := gt_of (tmS 49 (q := (y_MM_readsLetter, 32)) rfl) rfl
theorem ws_MM_readsWay : Cond.selects y_MM_readsWay.cls y_MM_readsWay y_MM_readsWay ∈ gtb := gt_of (tmS 50 (q := (y_MM_readsWay, 32)) rfl) rfl
theorem ws_MM_readsFault : Cond.selects y_MM_readsFault.cls y_MM_readsFault y_MM_readsFault ∈ gtb := gt_of (tmS 51 (q := (y_MM_readsFault, 32)) rfl) rfl
theorem ws_MM_canBe : Cond.selects y_MM_canBe.cls y_MM_canBe y_MM_canBe ∈ gtb := gt_of (tmS 52 (q := (y_MM_canBe, 32)) rfl) rfl
theorem ws_MM_isParty : Cond.selects y_MM_isParty.cls y_MM_isParty y_MM_isParty ∈ gtb := gt_of (tmS 53 (q := (y_MM_isParty, 32)) rfl) rfl
theorem ws_MM_keepsPast : Cond.selects y_MM_keepsPast.cls y_MM_keepsPast y_MM_keepsPast ∈ gtb := gt_of (tmS 54 (q := (y_MM_keepsPast, 32)) rfl) rfl
theorem ws_MM_isLiar : Cond.selects y_MM_isLiar.cls y_MM_isLiar y_MM_isLiar ∈ gtb := gt_of (tmS 55 (q := (y_MM_isLiar, 32)) rfl) rfl
theorem ws_MM_laysTold : Cond.selects y_MM_laysTold.cls y_MM_laysTold y_MM_laysTold ∈ gtb := gt_of (tmS 56 (q := (y_MM_laysTold, 32)) rfl) rfl
theorem ws_MM_areUnlike : Cond.selects y_MM_areUnlike.cls y_MM_areUnlike y_MM_areUnlike ∈ gtb := gt_of (tmS 57 (q := (y_MM_areUnlike, 32)) rfl) rfl
theorem ws_MM_plans : Cond.selects y_MM_plans.cls y_MM_plans y_MM_plans ∈ gtb := gt_of (tmS 58 (q := (y_MM_plans, 32)) rfl) rfl
theorem ws_MM_takesOut : Cond.selects y_MM_takesOut.cls y_MM_takesOut y_MM_takesOut ∈ gtb := gt_of (tmS 59 (q := (y_MM_takesOut, 32)) rfl) rfl
theorem ws_MM_adds : Cond.selects y_MM_adds.cls y_MM_adds y_MM_adds ∈ gtb := gt_of (tmS 60 (q := (y_MM_adds, 32)) rfl) rfl
theorem ws_MM_faultOf : Cond.selects y_MM_faultOf.cls y_MM_faultOf y_MM_faultOf ∈ gtb := gt_of (tmS 61 (q := (y_MM_faultOf, 32)) rfl) rfl
theorem ws_MM_faults : Cond.selects y_MM_faults.cls y_MM_faults y_MM_faults ∈ gtb := gt_of (tmS 62 (q := (y_MM_faults, 32)) rfl) rfl
theorem ws_MM_isHonest : Cond.selects y_MM_isHonest.cls y_MM_isHonest y_MM_isHonest ∈ gtb := gt_of (tmS 63 (q := (y_MM_isHonest, 32)) rfl) rfl
theorem ws_MM_runs : Cond.selects y_MM_runs.cls y_MM_runs y_MM_runs ∈ gtb := gt_of (tmS 64 (q := (y_MM_runs, 32)) rfl) rfl
theorem ws_MM_sendsHonest : Cond.selects y_MM_sendsHonest.cls y_MM_sendsHonest y_MM_sendsHonest ∈ gtb := gt_of (tmS 65 (q := (y_MM_sendsHonest, 32)) rfl) rfl
theorem ws_MM_sendsAll : Cond.selects y_MM_sendsAll.cls y_MM_sendsAll y_MM_sendsAll ∈ gtb := gt_of (tmS 66 (q := (y_MM_sendsAll, 32)) rfl) rfl
theorem ws_MM_sends : Cond.selects y_MM_sends.cls y_MM_sends y_MM_sends ∈ gtb := gt_of (tmS 67 (q := (y_MM_sends, 32)) rfl) rfl
theorem ws_MM_relays : Cond.selects y_MM_relays.cls y_MM_relays y_MM_relays ∈ gtb := gt_of (tmS 68 (q := (y_MM_relays, 32)) rfl) rfl
theorem ws_MM_rank : Cond.selects y_MM_rank.cls y_MM_rank y_MM_rank ∈ gtb := gt_of (tmS 69 (q := (y_MM_rank, 32)) rfl) rfl
theorem ws_MM_sendsPlanned : Cond.selects y_MM_sendsPlanned.cls y_MM_sendsPlanned y_MM_sendsPlanned ∈ gtb := gt_of (tmS 70 (q := (y_MM_sendsPlanned, 32)) rfl) rfl
theorem ws_MM_isForged : Cond.selects y_MM_isForged.cls y_MM_isForged y_MM_isForged ∈ gtb := gt_of (tmS 71 (q := (y_MM_isForged, 32)) rfl) rfl
theorem ws_MM_reads : Cond.selects y_MM_reads.cls y_MM_reads y_MM_reads ∈ gtb := gt_of (tmS 72 (q := (y_MM_reads, 32)) rfl) rfl
theorem ws_MM_setOf : Cond.selects y_MM_setOf.cls y_MM_setOf y_MM_setOf ∈ gtb := gt_of (tmS 73 (q := (y_MM_setOf, 32)) rfl) rfl
theorem ws_MM_decisionOf : Cond.selects y_MM_decisionOf.cls y_MM_decisionOf y_MM_decisionOf ∈ gtb := gt_of (tmS 74 (q := (y_MM_decisionOf, 32)) rfl) rfl
theorem ws_MM_soundSet : Cond.selects y_MM_soundSet.cls y_MM_soundSet y_MM_soundSet ∈ gtb := gt_of (tmS 75 (q := (y_MM_soundSet, 32)) rfl) rfl
theorem ws_MM_decideAlike : Cond.selects y_MM_decideAlike.cls y_MM_decideAlike y_MM_decideAlike ∈ gtb := gt_of (tmS 76 (q := (y_MM_decideAlike, 32)) rfl) rfl
theorem ws_MM_leaves : Cond.selects y_MM_leaves.cls y_MM_leaves y_MM_leaves ∈ gtb := gt_of (tmS 77 (q := (y_MM_leaves, 32)) rfl) rfl
theorem ws_MM_marksDecisions : Cond.selects y_MM_marksDecisions.cls y_MM_marksDecisions y_MM_marksDecisions ∈ gtb := gt_of (tmS 78 (q := (y_MM_marksDecisions, 32)) rfl) rfl
theorem ws_MM_faultsAside : Cond.selects y_MM_faultsAside.cls y_MM_faultsAside y_MM_faultsAside ∈ gtb := gt_of (tmS 79 (q := (y_MM_faultsAside, 32)) rfl) rfl
theorem ws_MM_isAsItWas : Cond.selects y_MM_isAsItWas.cls y_MM_isAsItWas y_MM_isAsItWas ∈ gtb := gt_of (tmS 80 (q := (y_MM_isAsItWas, 32)) rfl) rfl
theorem ws_MM_honestSet : Cond.selects y_MM_honestSet.cls y_MM_honestSet y_MM_honestSet ∈ gtb := gt_of (tmS 81 (q := (y_MM_honestSet, 32)) rfl) rfl
theorem ws_MM_bears : Cond.selects y_MM_bears.cls y_MM_bears y_MM_bears ∈ gtb := gt_of (tmS 82 (q := (y_MM_bears, 32)) rfl) rfl
theorem ws_MM_loadOf : Cond.selects y_MM_loadOf.cls y_MM_loadOf y_MM_loadOf ∈ gtb := gt_of (tmS 83 (q := (y_MM_loadOf, 32)) rfl) rfl
theorem ws_MM_isCalm : Cond.selects y_MM_isCalm.cls y_MM_isCalm y_MM_isCalm ∈ gtb := gt_of (tmS 84 (q := (y_MM_isCalm, 32)) rfl) rfl
theorem ws_MM_wanting : Cond.selects y_MM_wanting.cls y_MM_wanting y_MM_wanting ∈ gtb := gt_of (tmS 85 (q := (y_MM_wanting, 32)) rfl) rfl
theorem i_Play : ∀ w ∈ u_ws R_Play T_Play 12, w ∈ gtb := by
  intro w hw
  obtain ⟨k, hk, rfl⟩ := List.mem_map.mp hw
  have hk := List.mem_range.mp hk
  rcases (show k = 0 ∨ k = 1 ∨ k = 2 ∨ k = 3 ∨ k = 4 ∨ k = 5 ∨ k = 6 ∨ k = 7 ∨ k = 8 ∨ k = 9 ∨ k = 10 ∨ k = 11 by omega) with rfl | rfl | rfl | rfl | rfl | rfl | rfl | rfl | rfl | rfl | rfl | rfl
  · exact w1_75
  · exact w1_77
  · exact w1_79
  · exact w1_81
  · exact w1_83
  · exact w1_85
  · exact w1_87
  · exact w1_89
  · exact w1_91
  · exact w1_93
  · exact w1_95
  · exact w1_97
theorem i_Run : ∀ w ∈ u_ws R_Run T_Run 16, w ∈ gtb := by
  intro w hw
  obtain ⟨k, hk, rfl⟩ := List.mem_map.mp hw
  have hk := List.mem_range.mp hk
  rcases (show k = 0 ∨ k = 1 ∨ k = 2 ∨ k = 3 ∨ k = 4 ∨ k = 5 ∨ k = 6 ∨ k = 7 ∨ k = 8 ∨ k = 9 ∨ k = 10 ∨ k = 11 ∨ k = 12 ∨ k = 13 ∨ k = 14 ∨ k = 15 by omega) with rfl | rfl | rfl | rfl | rfl | rfl | rfl | rfl | rfl | rfl | rfl | rfl | rfl | rfl | rfl | rfl
  · exact w1_168
  · exact w1_170
  · exact w1_172
  · exact w1_174
  · exact w1_176
  · exact w1_178
  · exact w1_180
  · exact w1_182
  · exact w1_184
  · exact w1_186
  · exact w1_188
  · exact w1_190
  · exact w1_192
  · exact w1_194
  · exact w1_196
  · exact w1_198
theorem i_Tape : ∀ w ∈ u_ws R_Tape T_Tape 6, w ∈ gtb := by
  intro w hw
  obtain ⟨k, hk, rfl⟩ := List.mem_map.mp hw
  have hk := List.mem_range.mp hk
  rcases (show k = 0 ∨ k = 1 ∨ k = 2 ∨ k = 3 ∨ k = 4 ∨ k = 5 by omega) with rfl | rfl | rfl | rfl | rfl | rfl
  · exact w1_118
  · exact w1_120
  · exact w1_122
  · exact w1_124
  · exact w1_126
  · exact w1_128
theorem i_MC : ∀ w ∈ u_ws R_MC T_MC 8, w ∈ gtb := by
  intro w hw
  obtain ⟨k, hk, rfl⟩ := List.mem_map.mp hw
  have hk := List.mem_range.mp hk
  rcases (show k = 0 ∨ k = 1 ∨ k = 2 ∨ k = 3 ∨ k = 4 ∨ k = 5 ∨ k = 6 ∨ k = 7 by omega) with rfl | rfl | rfl | rfl | rfl | rfl | rfl | rfl
  · exact w2_79
  · exact w2_81
  · exact w2_83
  · exact w2_85
  · exact w2_87
  · exact w2_89
  · exact w2_91
  · exact w2_93
theorem i_MM : ∀ w ∈ u_ws R_MM T_MM 32, w ∈ gtb := by
  intro w hw
  obtain ⟨k, hk, rfl⟩ := List.mem_map.mp hw
  have hk := List.mem_range.mp hk
  rcases (show k = 0 ∨ k = 1 ∨ k = 2 ∨ k = 3 ∨ k = 4 ∨ k = 5 ∨ k = 6 ∨ k = 7 ∨ k = 8 ∨ k = 9 ∨ k = 10 ∨ k = 11 ∨ k = 12 ∨ k = 13 ∨ k = 14 ∨ k = 15 ∨ k = 16 ∨ k = 17 ∨ k = 18 ∨ k = 19 ∨ k = 20 ∨ k = 21 ∨ k = 22 ∨ k = 23 ∨ k = 24 ∨ k = 25 ∨ k = 26 ∨ k = 27 ∨ k = 28 ∨ k = 29 ∨ k = 30 ∨ k = 31 by omega) with rfl | rfl | rfl | rfl | rfl | rfl | rfl | rfl | rfl | rfl | rfl | rfl | rfl | rfl | rfl | rfl | rfl | rfl | rfl | rfl | rfl | rfl | rfl | rfl | rfl | rfl | rfl | rfl | rfl | rfl | rfl | rfl
  · exact w4_225
  · exact w4_227
  · exact w4_229
  · exact w4_231
  · exact w4_233
  · exact w4_235
  · exact w4_237
  · exact w4_239
  · exact w5_1
  · exact w5_3
  · exact w5_5
  · exact w5_7
  · exact w5_9
  · exact w5_11
  · exact w5_13
  · exact w5_15
  · exact w5_17
  · exact w5_19
  · exact w5_21
  · exact w5_23
  · exact w5_25
  · exact w5_27
  · exact w5_29
  · exact w5_31
  · exact w5_33
  · exact w5_35
  · exact w5_37
  · exact w5_39
  · exact w5_41
  · exact w5_43
  · exact w5_45
  · exact w5_47
