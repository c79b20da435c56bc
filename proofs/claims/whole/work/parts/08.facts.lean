/-! facts of fields, arrays, links (by program: wip/whole/facts.py) -/
def K_A_think : ZK := (⟨"ThinkNumber", "think", "(IIII)Z"⟩, prog_1_method_2_code, 5, (Option.some FieldType.boolean))
def K_A_isNumber : ZK := (⟨"ThinkNumber", "isNumber", "(I)Z"⟩, prog_1_method_40_code, 1, (Option.some FieldType.boolean))
def K_A_feed : ZK := (⟨"ThinkNumber", "feed", "(IIIII)I"⟩, prog_1_method_3_code, 6, (Option.some FieldType.int))
def K_Tape_hasRoom : ZK := (⟨"ThinkNumber$Tape", "hasRoom", "()Z"⟩, prog_10_method_2_code, 1, (Option.some FieldType.boolean))
def K_Tape_append : ZK := (⟨"ThinkNumber$Tape", "append", "(I)V"⟩, prog_10_method_3_code, 3, (Option.none : Option FieldType))
def K_A_end : ZK := (⟨"ThinkNumber", "end", "(I)I"⟩, prog_1_method_4_code, 2, (Option.some FieldType.int))
def K_A_table : ZK := (⟨"ThinkNumber", "table", "()I"⟩, prog_1_method_5_code, 3, (Option.some FieldType.int))
def K_Reader_read : ZK := (⟨"ThinkNumber$Reader", "read", "(LThinkNumber$Table;)Z"⟩, prog_5_method_2_code, 3, (Option.some FieldType.boolean))
def K_Table_clear : ZK := (⟨"ThinkNumber$Table", "clear", "()V"⟩, prog_8_method_2_code, 1, (Option.none : Option FieldType))
def K_JArr_fillI : ZK := (⟨"java/util/Arrays", "fill", "([II)V"⟩, prog_21_method_103_code, 4, (Option.none : Option FieldType))
def K_Reader_advance : ZK := (⟨"ThinkNumber$Reader", "advance", "()V"⟩, prog_5_method_11_code, 2, (Option.none : Option FieldType))
def K_Reader_sortOf : ZK := (⟨"ThinkNumber$Reader", "sortOf", "(B)I"⟩, prog_5_method_12_code, 1, (Option.some FieldType.int))
def K_Reader_readClause : ZK := (⟨"ThinkNumber$Reader", "readClause", "(LThinkNumber$Table;I)Z"⟩, prog_5_method_3_code, 4, (Option.some FieldType.boolean))
def K_Reader_kindOfWord : ZK := (⟨"ThinkNumber$Reader", "kindOfWord", "()I"⟩, prog_5_method_14_code, 2, (Option.some FieldType.int))
def K_Reader_wordOf : ZK := (⟨"ThinkNumber$Reader", "wordOf", "(I)Ljava/lang/String;"⟩, prog_5_method_17_code, 1, (Option.some (FieldType.object "java/lang/String")))
def K_Reader_spells : ZK := (⟨"ThinkNumber$Reader", "spells", "(Ljava/lang/String;)Z"⟩, prog_5_method_16_code, 3, (Option.some FieldType.boolean))
def K_JStr_length : ZK := (⟨"java/lang/String", "length", "()I"⟩, prog_17_method_54_code, 1, (Option.some FieldType.int))
def K_JStr_coder : ZK := (⟨"java/lang/String", "coder", "()B"⟩, prog_17_method_152_code, 1, (Option.some FieldType.byte))
def K_JStr_charAt : ZK := (⟨"java/lang/String", "charAt", "(I)C"⟩, prog_17_method_56_code, 2, (Option.some FieldType.char))
def K_JStr_isLatin1 : ZK := (⟨"java/lang/String", "isLatin1", "()Z"⟩, prog_17_method_154_code, 1, (Option.some FieldType.boolean))
def K_JLat_charAt : ZK := (⟨"java/lang/StringLatin1", "charAt", "([BI)C"⟩, prog_18_method_2_code, 2, (Option.some FieldType.char))
def K_JStr_checkIndex : ZK := (⟨"java/lang/String", "checkIndex", "(II)V"⟩, prog_17_method_155_code, 2, (Option.none : Option FieldType))
def K_JPre_checkIndex : ZK := (⟨"jdk/internal/util/Preconditions", "checkIndex", "(IILjava/util/function/BiFunction;)I"⟩, prog_22_method_11_code, 3, (Option.some FieldType.int))
def K_Reader_refuse : ZK := (⟨"ThinkNumber$Reader", "refuse", "(I)Z"⟩, prog_5_method_10_code, 2, (Option.some FieldType.boolean))
def K_Reader_readHide : ZK := (⟨"ThinkNumber$Reader", "readHide", "(LThinkNumber$Table;)Z"⟩, prog_5_method_4_code, 4, (Option.some FieldType.boolean))
def K_Reader_letterOfWord : ZK := (⟨"ThinkNumber$Reader", "letterOfWord", "()I"⟩, prog_5_method_15_code, 2, (Option.some FieldType.int))
def K_A_isLetter : ZK := (⟨"ThinkNumber", "isLetter", "(I)Z"⟩, prog_1_method_41_code, 1, (Option.some FieldType.boolean))
def K_Table_isHidden : ZK := (⟨"ThinkNumber$Table", "isHidden", "(I)Z"⟩, prog_8_method_3_code, 2, (Option.some FieldType.boolean))
def K_Reader_readWord : ZK := (⟨"ThinkNumber$Reader", "readWord", "(Ljava/lang/String;)Z"⟩, prog_5_method_8_code, 2, (Option.some FieldType.boolean))
def K_Reader_readNumber : ZK := (⟨"ThinkNumber$Reader", "readNumber", "(II)Z"⟩, prog_5_method_7_code, 3, (Option.some FieldType.boolean))
def K_Reader_numberOfDigits : ZK := (⟨"ThinkNumber$Reader", "numberOfDigits", "()I"⟩, prog_5_method_13_code, 3, (Option.some FieldType.int))
def K_Reader_readSemicolon : ZK := (⟨"ThinkNumber$Reader", "readSemicolon", "()Z"⟩, prog_5_method_9_code, 1, (Option.some FieldType.boolean))
def K_Reader_readArgument : ZK := (⟨"ThinkNumber$Reader", "readArgument", "(LThinkNumber$Table;I)Z"⟩, prog_5_method_5_code, 3, (Option.some FieldType.boolean))
def K_Reader_readX : ZK := (⟨"ThinkNumber$Reader", "readX", "(LThinkNumber$Table;)Z"⟩, prog_5_method_6_code, 3, (Option.some FieldType.boolean))
def K_Orders_add : ZK := (⟨"ThinkNumber$Orders", "add", "(II)Z"⟩, prog_3_method_3_code, 3, (Option.some FieldType.boolean))
def K_A_fault : ZK := (⟨"ThinkNumber", "fault", "(I)I"⟩, prog_1_method_6_code, 2, (Option.some FieldType.int))
def K_A_order : ZK := (⟨"ThinkNumber", "order", "(IIZ)I"⟩, prog_1_method_7_code, 5, (Option.some FieldType.int))
def K_A_find : ZK := (⟨"ThinkNumber", "find", "(I)LThinkNumber$Table;"⟩, prog_1_method_34_code, 2, (Option.some (FieldType.object "ThinkNumber$Table")))
def K_Orders_has : ZK := (⟨"ThinkNumber$Orders", "has", "(I)Z"⟩, prog_3_method_2_code, 2, (Option.some FieldType.boolean))
def K_A_span : ZK := (⟨"ThinkNumber", "span", "(IIZ)I"⟩, prog_1_method_8_code, 5, (Option.some FieldType.int))
def K_A_comes : ZK := (⟨"ThinkNumber", "comes", "(IIZ)J"⟩, prog_1_method_9_code, 6, (Option.some FieldType.long))
def K_Table_run : ZK := (⟨"ThinkNumber$Table", "run", "(I[ILThinkNumber$Value;)I"⟩, prog_8_method_5_code, 6, (Option.some FieldType.int))
def K_Table_begin : ZK := (⟨"ThinkNumber$Table", "begin", "(LThinkNumber$Value;[I)V"⟩, prog_8_method_4_code, 3, (Option.none : Option FieldType))
def K_Value_setWhole : ZK := (⟨"ThinkNumber$Value", "setWhole", "(J)V"⟩, prog_11_method_2_code, 3, (Option.none : Option FieldType))
def K_Orders_amount : ZK := (⟨"ThinkNumber$Orders", "amount", "(I[I)I"⟩, prog_3_method_4_code, 4, (Option.some FieldType.int))
def K_Value_obey : ZK := (⟨"ThinkNumber$Value", "obey", "(II)Z"⟩, prog_11_method_7_code, 4, (Option.some FieldType.boolean))
def K_Value_put : ZK := (⟨"ThinkNumber$Value", "put", "(JJ)Z"⟩, prog_11_method_6_code, 11, (Option.some FieldType.boolean))
def K_A_commonMeasure : ZK := (⟨"ThinkNumber", "commonMeasure", "(JJ)J"⟩, prog_1_method_43_code, 11, (Option.some FieldType.long))
def K_A_figuresOf : ZK := (⟨"ThinkNumber", "figuresOf", "(J)I"⟩, prog_1_method_44_code, 3, (Option.some FieldType.int))
def K_Value_turned : ZK := (⟨"ThinkNumber$Value", "turned", "()J"⟩, prog_11_method_8_code, 6, (Option.some FieldType.long))
def K_Value_across : ZK := (⟨"ThinkNumber$Value", "across", "()J"⟩, prog_11_method_9_code, 6, (Option.some FieldType.long))
def K_Value_without : ZK := (⟨"ThinkNumber$Value", "without", "(I)J"⟩, prog_11_method_10_code, 5, (Option.some FieldType.long))
def K_Value_part : ZK := (⟨"ThinkNumber$Value", "part", "(Z)J"⟩, prog_11_method_5_code, 2, (Option.some FieldType.long))
def K_A_fails : ZK := (⟨"ThinkNumber", "fails", "(I)I"⟩, prog_1_method_10_code, 4, (Option.some FieldType.int))
def K_A_said : ZK := (⟨"ThinkNumber", "said", "(IIZ)J"⟩, prog_1_method_11_code, 8, (Option.some FieldType.long))
def K_A_claim : ZK := (⟨"ThinkNumber", "claim", "(II)I"⟩, prog_1_method_12_code, 3, (Option.some FieldType.int))
def K_Values_tell : ZK := (⟨"ThinkNumber$Values", "tell", "(IILThinkNumber$Value;)I"⟩, prog_12_method_2_code, 4, (Option.some FieldType.int))
def K_A_isTold : ZK := (⟨"ThinkNumber", "isTold", "(II)Z"⟩, prog_1_method_42_code, 2, (Option.some FieldType.boolean))
def K_Values_append : ZK := (⟨"ThinkNumber$Values", "append", "(LThinkNumber$Value;)Z"⟩, prog_12_method_3_code, 2, (Option.some FieldType.boolean))
def K_A_judge : ZK := (⟨"ThinkNumber", "judge", "(I)I"⟩, prog_1_method_13_code, 6, (Option.some FieldType.int))
def K_Values_holds : ZK := (⟨"ThinkNumber$Values", "holds", "(ILThinkNumber$Value;)Z"⟩, prog_12_method_5_code, 3, (Option.some FieldType.boolean))
def K_Value_is : ZK := (⟨"ThinkNumber$Value", "is", "(JJ)Z"⟩, prog_11_method_4_code, 5, (Option.some FieldType.boolean))
def K_A_same : ZK := (⟨"ThinkNumber", "same", "(I)I"⟩, prog_1_method_14_code, 3, (Option.some FieldType.int))
def K_Table_countAll : ZK := (⟨"ThinkNumber$Table", "countAll", "()J"⟩, prog_8_method_10_code, 4, (Option.some FieldType.long))
def K_A_findUnlike : ZK := (⟨"ThinkNumber", "findUnlike", "(LThinkNumber$Table;)Z"⟩, prog_1_method_35_code, 5, (Option.some FieldType.boolean))
def K_Table_firstOfAll : ZK := (⟨"ThinkNumber$Table", "firstOfAll", "([I)V"⟩, prog_8_method_11_code, 3, (Option.none : Option FieldType))
def K_Table_comesToEnd : ZK := (⟨"ThinkNumber$Table", "comesToEnd", "([ILThinkNumber$Value;)Z"⟩, prog_8_method_6_code, 3, (Option.some FieldType.boolean))
def K_Value_copyFrom : ZK := (⟨"ThinkNumber$Value", "copyFrom", "(LThinkNumber$Value;)V"⟩, prog_11_method_3_code, 2, (Option.none : Option FieldType))
def K_Table_nextOfAll : ZK := (⟨"ThinkNumber$Table", "nextOfAll", "([I)V"⟩, prog_8_method_12_code, 3, (Option.none : Option FieldType))
def K_A_unlike : ZK := (⟨"ThinkNumber", "unlike", "(II)I"⟩, prog_1_method_15_code, 4, (Option.some FieldType.int))
def K_A_proof : ZK := (⟨"ThinkNumber", "proof", "(II)J"⟩, prog_1_method_16_code, 4, (Option.some FieldType.long))
def K_Sum_prove : ZK := (⟨"ThinkNumber$Sum", "prove", "(LThinkNumber$Table;)Z"⟩, prog_7_method_2_code, 3, (Option.some FieldType.boolean))
def K_JArr_fillJ : ZK := (⟨"java/util/Arrays", "fill", "([JJ)V"⟩, prog_21_method_101_code, 5, (Option.none : Option FieldType))
def K_Sum_follow : ZK := (⟨"ThinkNumber$Sum", "follow", "(II)Z"⟩, prog_7_method_3_code, 4, (Option.some FieldType.boolean))
def K_Sum_addPart : ZK := (⟨"ThinkNumber$Sum", "addPart", "(II)Z"⟩, prog_7_method_4_code, 4, (Option.some FieldType.boolean))
def K_Sum_multiply : ZK := (⟨"ThinkNumber$Sum", "multiply", "(I)Z"⟩, prog_7_method_5_code, 3, (Option.some FieldType.boolean))
def K_Sum_multiplyByLetter : ZK := (⟨"ThinkNumber$Sum", "multiplyByLetter", "(I)Z"⟩, prog_7_method_6_code, 3, (Option.some FieldType.boolean))
def K_Sum_putInLowestTerms : ZK := (⟨"ThinkNumber$Sum", "putInLowestTerms", "()Z"⟩, prog_7_method_7_code, 5, (Option.some FieldType.boolean))
def K_A_hear : ZK := (⟨"ThinkNumber", "hear", "(II)I"⟩, prog_1_method_17_code, 3, (Option.some FieldType.int))
def K_A_fits : ZK := (⟨"ThinkNumber", "fits", "(III)I"⟩, prog_1_method_18_code, 8, (Option.some FieldType.int))
def K_Tally_clear : ZK := (⟨"ThinkNumber$Tally", "clear", "()V"⟩, prog_9_method_2_code, 1, (Option.none : Option FieldType))
def K_Table_saysJust : ZK := (⟨"ThinkNumber$Table", "saysJust", "(LThinkNumber$Values;[ILThinkNumber$Value;)Z"⟩, prog_8_method_7_code, 7, (Option.some FieldType.boolean))
def K_Tally_note : ZK := (⟨"ThinkNumber$Tally", "note", "(I)V"⟩, prog_9_method_3_code, 4, (Option.none : Option FieldType))
def K_Tally_pick : ZK := (⟨"ThinkNumber$Tally", "pick", "(I)I"⟩, prog_9_method_4_code, 2, (Option.some FieldType.int))
def K_A_more : ZK := (⟨"ThinkNumber", "more", "(I)I"⟩, prog_1_method_19_code, 5, (Option.some FieldType.int))
def K_Parting_lowestTelling : ZK := (⟨"ThinkNumber$Parting", "lowestTelling", "(LThinkNumber$Table;I[ILThinkNumber$Value;)I"⟩, prog_4_method_2_code, 7, (Option.some FieldType.int))
def K_Parting_groupBySaid : ZK := (⟨"ThinkNumber$Parting", "groupBySaid", "(LThinkNumber$Table;[ILThinkNumber$Value;)I"⟩, prog_4_method_3_code, 6, (Option.some FieldType.int))
def K_Parting_startAll : ZK := (⟨"ThinkNumber$Parting", "startAll", "(LThinkNumber$Table;[ILThinkNumber$Value;)V"⟩, prog_4_method_4_code, 5, (Option.none : Option FieldType))
def K_Parting_stepAll : ZK := (⟨"ThinkNumber$Parting", "stepAll", "(LThinkNumber$Table;I[ILThinkNumber$Value;)V"⟩, prog_4_method_5_code, 7, (Option.none : Option FieldType))
def K_Parting_countGroups : ZK := (⟨"ThinkNumber$Parting", "countGroups", "()I"⟩, prog_4_method_6_code, 3, (Option.some FieldType.int))
def K_Parting_seat : ZK := (⟨"ThinkNumber$Parting", "seat", "(I)I"⟩, prog_4_method_7_code, 7, (Option.some FieldType.int))
def K_A_kit : ZK := (⟨"ThinkNumber", "kit", "(II)I"⟩, prog_1_method_20_code, 5, (Option.some FieldType.int))
def K_A_made : ZK := (⟨"ThinkNumber", "made", "(IIIII)I"⟩, prog_1_method_21_code, 7, (Option.some FieldType.int))
def K_Maker_fewest : ZK := (⟨"ThinkNumber$Maker", "fewest", "(LThinkNumber$Orders;IIII)I"⟩, prog_2_method_2_code, 7, (Option.some FieldType.int))
def K_Maker_reaches : ZK := (⟨"ThinkNumber$Maker", "reaches", "(LThinkNumber$Orders;II)Z"⟩, prog_2_method_3_code, 6, (Option.some FieldType.boolean))
def K_Maker_spread : ZK := (⟨"ThinkNumber$Maker", "spread", "(LThinkNumber$Orders;IIZ)Z"⟩, prog_2_method_4_code, 7, (Option.some FieldType.boolean))
def K_A_slip : ZK := (⟨"ThinkNumber", "slip", "(IIII)I"⟩, prog_1_method_22_code, 8, (Option.some FieldType.int))
def K_Table_runWithSlip : ZK := (⟨"ThinkNumber$Table", "runWithSlip", "(I[ILThinkNumber$Value;)Z"⟩, prog_8_method_8_code, 9, (Option.some FieldType.boolean))
def K_Table_slipAt : ZK := (⟨"ThinkNumber$Table", "slipAt", "(IIILThinkNumber$Value;)Z"⟩, prog_8_method_9_code, 4, (Option.some FieldType.boolean))
def K_A_ask : ZK := (⟨"ThinkNumber", "ask", "(I)I"⟩, prog_1_method_23_code, 2, (Option.some FieldType.int))
def K_A_known : ZK := (⟨"ThinkNumber", "known", "(IZ)I"⟩, prog_1_method_24_code, 5, (Option.some FieldType.int))
def K_A_fewestAsks : ZK := (⟨"ThinkNumber", "fewestAsks", "(II)I"⟩, prog_1_method_36_code, 5, (Option.some FieldType.int))
def K_JInt_bitCount : ZK := (⟨"java/lang/Integer", "bitCount", "(I)I"⟩, prog_15_method_49_code, 1, (Option.some FieldType.int))
def K_A_mostAsksBehind : ZK := (⟨"ThinkNumber", "mostAsksBehind", "(III)I"⟩, prog_1_method_37_code, 10, (Option.some FieldType.int))
def K_A_multiplesOf : ZK := (⟨"ThinkNumber", "multiplesOf", "(I)I"⟩, prog_1_method_39_code, 3, (Option.some FieldType.int))
def K_A_lowestFirstAsk : ZK := (⟨"ThinkNumber", "lowestFirstAsk", "(II)I"⟩, prog_1_method_38_code, 4, (Option.some FieldType.int))
def K_A_rest : ZK := (⟨"ThinkNumber", "rest", "(I)I"⟩, prog_1_method_25_code, 2, (Option.some FieldType.int))
def K_Tape_marks : ZK := (⟨"ThinkNumber$Tape", "marks", "()I"⟩, prog_10_method_4_code, 3, (Option.some FieldType.int))
def K_Tape_restBy : ZK := (⟨"ThinkNumber$Tape", "restBy", "(II)I"⟩, prog_10_method_5_code, 6, (Option.some FieldType.int))
def K_A_struck : ZK := (⟨"ThinkNumber", "struck", "(I)I"⟩, prog_1_method_26_code, 4, (Option.some FieldType.int))
def K_A_play : ZK := (⟨"ThinkNumber", "play", "(I)I"⟩, prog_1_method_27_code, 3, (Option.some FieldType.int))
def K_A_go : ZK := (⟨"ThinkNumber", "go", "()I"⟩, prog_1_method_28_code, 4, (Option.some FieldType.int))
def K_State_ordersPlayed : ZK := (⟨"ThinkNumber$State", "ordersPlayed", "()I"⟩, prog_6_method_2_code, 1, (Option.some FieldType.int))
def K_Values_readLast : ZK := (⟨"ThinkNumber$Values", "readLast", "(LThinkNumber$Value;)V"⟩, prog_12_method_4_code, 2, (Option.none : Option FieldType))
def K_A_undo : ZK := (⟨"ThinkNumber", "undo", "()I"⟩, prog_1_method_29_code, 1, (Option.some FieldType.int))
def K_A_value : ZK := (⟨"ThinkNumber", "value", "(Z)J"⟩, prog_1_method_30_code, 2, (Option.some FieldType.long))
def K_A_image : ZK := (⟨"ThinkNumber", "image", "()I"⟩, prog_1_method_31_code, 1, (Option.some FieldType.int))
def K_State_copyFrom : ZK := (⟨"ThinkNumber$State", "copyFrom", "(LThinkNumber$State;)V"⟩, prog_6_method_3_code, 2, (Option.none : Option FieldType))
def K_Values_copyFrom : ZK := (⟨"ThinkNumber$Values", "copyFrom", "(LThinkNumber$Values;)V"⟩, prog_12_method_6_code, 2, (Option.none : Option FieldType))
def K_Orders_copyFrom : ZK := (⟨"ThinkNumber$Orders", "copyFrom", "(LThinkNumber$Orders;)V"⟩, prog_3_method_5_code, 2, (Option.none : Option FieldType))
def K_A_back : ZK := (⟨"ThinkNumber", "back", "()I"⟩, prog_1_method_32_code, 1, (Option.some FieldType.int))
def K_A_about : ZK := (⟨"ThinkNumber", "about", "(I)I"⟩, prog_1_method_33_code, 2, (Option.some FieldType.int))
def K_M_copyAll : ZK := (⟨"ThinkNumberModel", "copyAll", "([I[J[I[J)V"⟩, prog_14_method_2_code, 5, (Option.none : Option FieldType))
def K_M_think : ZK := (⟨"ThinkNumberModel", "think", "(IIII)Z"⟩, prog_14_method_11_code, 5, (Option.some FieldType.boolean))
def K_M_isIn : ZK := (⟨"ThinkNumberModel", "isIn", "(III)Z"⟩, prog_14_method_3_code, 3, (Option.some FieldType.boolean))
def K_M_feed : ZK := (⟨"ThinkNumberModel", "feed", "(IIIII)I"⟩, prog_14_method_13_code, 6, (Option.some FieldType.int))
def K_M_four : ZK := (⟨"ThinkNumberModel", "four", "(I)V"⟩, prog_14_method_12_code, 3, (Option.none : Option FieldType))
def K_M_end : ZK := (⟨"ThinkNumberModel", "end", "(I)I"⟩, prog_14_method_14_code, 2, (Option.some FieldType.int))
def K_M_table : ZK := (⟨"ThinkNumberModel", "table", "()I"⟩, prog_14_method_31_code, 1, (Option.some FieldType.int))
def K_M_readTable : ZK := (⟨"ThinkNumberModel", "readTable", "()I"⟩, prog_14_method_30_code, 4, (Option.some FieldType.int))
def K_M_nextToken : ZK := (⟨"ThinkNumberModel", "nextToken", "()V"⟩, prog_14_method_18_code, 2, (Option.none : Option FieldType))
def K_M_byteAt : ZK := (⟨"ThinkNumberModel", "byteAt", "(I)I"⟩, prog_14_method_15_code, 2, (Option.some FieldType.int))
def K_M_isFigure : ZK := (⟨"ThinkNumberModel", "isFigure", "(I)Z"⟩, prog_14_method_17_code, 1, (Option.some FieldType.boolean))
def K_M_isLetterByte : ZK := (⟨"ThinkNumberModel", "isLetterByte", "(I)Z"⟩, prog_14_method_16_code, 1, (Option.some FieldType.boolean))
def K_M_kindAt : ZK := (⟨"ThinkNumberModel", "kindAt", "()I"⟩, prog_14_method_24_code, 1, (Option.some FieldType.int))
def K_M_w3 : ZK := (⟨"ThinkNumberModel", "w3", "(III)J"⟩, prog_14_method_19_code, 3, (Option.some FieldType.long))
def K_M_isWord : ZK := (⟨"ThinkNumberModel", "isWord", "(J)Z"⟩, prog_14_method_23_code, 3, (Option.some FieldType.boolean))
def K_M_w4 : ZK := (⟨"ThinkNumberModel", "w4", "(IIII)J"⟩, prog_14_method_20_code, 4, (Option.some FieldType.long))
def K_M_w5 : ZK := (⟨"ThinkNumberModel", "w5", "(IIIII)J"⟩, prog_14_method_21_code, 5, (Option.some FieldType.long))
def K_M_w6 : ZK := (⟨"ThinkNumberModel", "w6", "(IIIIII)J"⟩, prog_14_method_22_code, 6, (Option.some FieldType.long))
def K_M_hide : ZK := (⟨"ThinkNumberModel", "hide", "()I"⟩, prog_14_method_27_code, 4, (Option.some FieldType.int))
def K_M_letterAt : ZK := (⟨"ThinkNumberModel", "letterAt", "()I"⟩, prog_14_method_25_code, 1, (Option.some FieldType.int))
def K_M_numberAt : ZK := (⟨"ThinkNumberModel", "numberAt", "(III)I"⟩, prog_14_method_26_code, 4, (Option.some FieldType.int))
def K_M_order0 : ZK := (⟨"ThinkNumberModel", "order0", "(I)I"⟩, prog_14_method_29_code, 5, (Option.some FieldType.int))
def K_M_xAt : ZK := (⟨"ThinkNumberModel", "xAt", "(I)I"⟩, prog_14_method_28_code, 3, (Option.some FieldType.int))
def K_M_fault : ZK := (⟨"ThinkNumberModel", "fault", "(I)I"⟩, prog_14_method_32_code, 2, (Option.some FieldType.int))
def K_M_order : ZK := (⟨"ThinkNumberModel", "order", "(IIZ)I"⟩, prog_14_method_33_code, 4, (Option.some FieldType.int))
def K_M_isTable : ZK := (⟨"ThinkNumberModel", "isTable", "(I)Z"⟩, prog_14_method_5_code, 2, (Option.some FieldType.boolean))
def K_M_ordersOf : ZK := (⟨"ThinkNumberModel", "ordersOf", "(I)I"⟩, prog_14_method_6_code, 2, (Option.some FieldType.int))
def K_M_xOf : ZK := (⟨"ThinkNumberModel", "xOf", "(II)I"⟩, prog_14_method_8_code, 3, (Option.some FieldType.int))
def K_M_kindOf : ZK := (⟨"ThinkNumberModel", "kindOf", "(II)I"⟩, prog_14_method_7_code, 3, (Option.some FieldType.int))
def K_M_span : ZK := (⟨"ThinkNumberModel", "span", "(IIZ)I"⟩, prog_14_method_34_code, 4, (Option.some FieldType.int))
def K_M_isHidden : ZK := (⟨"ThinkNumberModel", "isHidden", "(II)Z"⟩, prog_14_method_10_code, 3, (Option.some FieldType.boolean))
def K_M_spanOf : ZK := (⟨"ThinkNumberModel", "spanOf", "(III)I"⟩, prog_14_method_9_code, 4, (Option.some FieldType.int))
def K_M_comes : ZK := (⟨"ThinkNumberModel", "comes", "(IIZ)J"⟩, prog_14_method_46_code, 4, (Option.some FieldType.long))
def K_M_thinkNow : ZK := (⟨"ThinkNumberModel", "thinkNow", "()V"⟩, prog_14_method_44_code, 2, (Option.none : Option FieldType))
def K_M_goTo : ZK := (⟨"ThinkNumberModel", "goTo", "(II)I"⟩, prog_14_method_45_code, 4, (Option.some FieldType.int))
def K_M_begin : ZK := (⟨"ThinkNumberModel", "begin", "(I)V"⟩, prog_14_method_43_code, 2, (Option.none : Option FieldType))
def K_M_does : ZK := (⟨"ThinkNumberModel", "does", "(II)Z"⟩, prog_14_method_42_code, 5, (Option.some FieldType.boolean))
def K_M_lay : ZK := (⟨"ThinkNumberModel", "lay", "(JJ)Z"⟩, prog_14_method_36_code, 7, (Option.some FieldType.boolean))
def K_M_common : ZK := (⟨"ThinkNumberModel", "common", "(JJ)J"⟩, prog_14_method_35_code, 10, (Option.some FieldType.long))
def K_M_figures : ZK := (⟨"ThinkNumberModel", "figures", "(IJ)Z"⟩, prog_14_method_41_code, 7, (Option.some FieldType.boolean))
def K_M_figuresOf : ZK := (⟨"ThinkNumberModel", "figuresOf", "(J)I"⟩, prog_14_method_37_code, 5, (Option.some FieldType.int))
def K_M_tenTo : ZK := (⟨"ThinkNumberModel", "tenTo", "(I)J"⟩, prog_14_method_38_code, 4, (Option.some FieldType.long))
def K_M_turned : ZK := (⟨"ThinkNumberModel", "turned", "(J)J"⟩, prog_14_method_39_code, 6, (Option.some FieldType.long))
def K_M_across : ZK := (⟨"ThinkNumberModel", "across", "(J)J"⟩, prog_14_method_40_code, 6, (Option.some FieldType.long))
def K_M_fails : ZK := (⟨"ThinkNumberModel", "fails", "(I)I"⟩, prog_14_method_47_code, 2, (Option.some FieldType.int))
def K_M_said : ZK := (⟨"ThinkNumberModel", "said", "(IIZ)J"⟩, prog_14_method_48_code, 6, (Option.some FieldType.long))
def K_M_claim : ZK := (⟨"ThinkNumberModel", "claim", "(II)I"⟩, prog_14_method_52_code, 3, (Option.some FieldType.int))
def K_M_listed : ZK := (⟨"ThinkNumberModel", "listed", "(IIIII)I"⟩, prog_14_method_51_code, 6, (Option.some FieldType.int))
def K_M_isFraction : ZK := (⟨"ThinkNumberModel", "isFraction", "(II)Z"⟩, prog_14_method_49_code, 2, (Option.some FieldType.boolean))
def K_M_write : ZK := (⟨"ThinkNumberModel", "write", "(III)V"⟩, prog_14_method_50_code, 6, (Option.none : Option FieldType))
def K_M_hear : ZK := (⟨"ThinkNumberModel", "hear", "(II)I"⟩, prog_14_method_53_code, 3, (Option.some FieldType.int))
def K_M_judge : ZK := (⟨"ThinkNumberModel", "judge", "(I)I"⟩, prog_14_method_54_code, 3, (Option.some FieldType.int))
def K_M_same : ZK := (⟨"ThinkNumberModel", "same", "(I)I"⟩, prog_14_method_61_code, 2, (Option.some FieldType.int))
def K_M_allOf : ZK := (⟨"ThinkNumberModel", "allOf", "(I)I"⟩, prog_14_method_57_code, 5, (Option.some FieldType.int))
def K_M_lastOf : ZK := (⟨"ThinkNumberModel", "lastOf", "(II)I"⟩, prog_14_method_56_code, 3, (Option.some FieldType.int))
def K_M_firstOf : ZK := (⟨"ThinkNumberModel", "firstOf", "(II)I"⟩, prog_14_method_55_code, 3, (Option.some FieldType.int))
def K_M_isSame : ZK := (⟨"ThinkNumberModel", "isSame", "(I)Z"⟩, prog_14_method_60_code, 8, (Option.some FieldType.boolean))
def K_M_thinkFirst : ZK := (⟨"ThinkNumberModel", "thinkFirst", "(I)V"⟩, prog_14_method_58_code, 3, (Option.none : Option FieldType))
def K_M_thinkNext : ZK := (⟨"ThinkNumberModel", "thinkNext", "(I)V"⟩, prog_14_method_59_code, 3, (Option.none : Option FieldType))
def K_M_unlike : ZK := (⟨"ThinkNumberModel", "unlike", "(II)I"⟩, prog_14_method_62_code, 3, (Option.some FieldType.int))
def K_M_proof : ZK := (⟨"ThinkNumberModel", "proof", "(II)J"⟩, prog_14_method_66_code, 4, (Option.some FieldType.long))
def K_M_proves : ZK := (⟨"ThinkNumberModel", "proves", "(II)Z"⟩, prog_14_method_65_code, 5, (Option.some FieldType.boolean))
def K_M_reduced : ZK := (⟨"ThinkNumberModel", "reduced", "()Z"⟩, prog_14_method_63_code, 4, (Option.some FieldType.boolean))
def K_M_isNumber : ZK := (⟨"ThinkNumberModel", "isNumber", "()Z"⟩, prog_14_method_64_code, 1, (Option.some FieldType.boolean))
def K_M_fits : ZK := (⟨"ThinkNumberModel", "fits", "(III)I"⟩, prog_14_method_68_code, 11, (Option.some FieldType.int))
def K_M_isFit : ZK := (⟨"ThinkNumberModel", "isFit", "(I)Z"⟩, prog_14_method_67_code, 4, (Option.some FieldType.boolean))
def K_M_more : ZK := (⟨"ThinkNumberModel", "more", "(I)I"⟩, prog_14_method_73_code, 5, (Option.some FieldType.int))
def K_M_layAll : ZK := (⟨"ThinkNumberModel", "layAll", "(II)I"⟩, prog_14_method_69_code, 7, (Option.some FieldType.int))
def K_M_areUnlike : ZK := (⟨"ThinkNumberModel", "areUnlike", "(III)Z"⟩, prog_14_method_72_code, 7, (Option.some FieldType.boolean))
def K_M_sumOf : ZK := (⟨"ThinkNumberModel", "sumOf", "(III)I"⟩, prog_14_method_71_code, 7, (Option.some FieldType.int))
def K_M_isAlike : ZK := (⟨"ThinkNumberModel", "isAlike", "(IIII)Z"⟩, prog_14_method_70_code, 6, (Option.some FieldType.boolean))
def K_M_kit : ZK := (⟨"ThinkNumberModel", "kit", "(II)I"⟩, prog_14_method_74_code, 4, (Option.some FieldType.int))
def K_M_made : ZK := (⟨"ThinkNumberModel", "made", "(IIIII)I"⟩, prog_14_method_78_code, 7, (Option.some FieldType.int))
def K_M_isMade : ZK := (⟨"ThinkNumberModel", "isMade", "(IIII)Z"⟩, prog_14_method_77_code, 9, (Option.some FieldType.boolean))
def K_M_leadsAll : ZK := (⟨"ThinkNumberModel", "leadsAll", "(IIII)Z"⟩, prog_14_method_76_code, 6, (Option.some FieldType.boolean))
def K_M_leads : ZK := (⟨"ThinkNumberModel", "leads", "(III)Z"⟩, prog_14_method_75_code, 5, (Option.some FieldType.boolean))
def K_M_slip : ZK := (⟨"ThinkNumberModel", "slip", "(IIII)I"⟩, prog_14_method_82_code, 9, (Option.some FieldType.int))
def K_M_isSlip : ZK := (⟨"ThinkNumberModel", "isSlip", "(IIIJJ)Z"⟩, prog_14_method_81_code, 9, (Option.some FieldType.boolean))
def K_M_slips : ZK := (⟨"ThinkNumberModel", "slips", "(III)Z"⟩, prog_14_method_80_code, 4, (Option.some FieldType.boolean))
def K_M_turnedRound : ZK := (⟨"ThinkNumberModel", "turnedRound", "(I)I"⟩, prog_14_method_79_code, 1, (Option.some FieldType.int))
def K_M_ask : ZK := (⟨"ThinkNumberModel", "ask", "(I)I"⟩, prog_14_method_83_code, 2, (Option.some FieldType.int))
def K_M_known : ZK := (⟨"ThinkNumberModel", "known", "(IZ)I"⟩, prog_14_method_87_code, 5, (Option.some FieldType.int))
def K_M_reckon : ZK := (⟨"ThinkNumberModel", "reckon", "(III)I"⟩, prog_14_method_86_code, 8, (Option.some FieldType.int))
def K_M_isLike : ZK := (⟨"ThinkNumberModel", "isLike", "(III)Z"⟩, prog_14_method_84_code, 5, (Option.some FieldType.boolean))
def K_M_has : ZK := (⟨"ThinkNumberModel", "has", "(II)Z"⟩, prog_14_method_4_code, 2, (Option.some FieldType.boolean))
def K_M_takesBy : ZK := (⟨"ThinkNumberModel", "takesBy", "(IIII)I"⟩, prog_14_method_85_code, 7, (Option.some FieldType.int))
def K_M_rest : ZK := (⟨"ThinkNumberModel", "rest", "(I)I"⟩, prog_14_method_90_code, 2, (Option.some FieldType.int))
def K_M_hidden : ZK := (⟨"ThinkNumberModel", "hidden", "()I"⟩, prog_14_method_88_code, 3, (Option.some FieldType.int))
def K_M_restBy : ZK := (⟨"ThinkNumberModel", "restBy", "(II)I"⟩, prog_14_method_89_code, 5, (Option.some FieldType.int))
def K_M_struck : ZK := (⟨"ThinkNumberModel", "struck", "(I)I"⟩, prog_14_method_91_code, 4, (Option.some FieldType.int))
def K_M_play : ZK := (⟨"ThinkNumberModel", "play", "(I)I"⟩, prog_14_method_92_code, 2, (Option.some FieldType.int))
def K_M_go : ZK := (⟨"ThinkNumberModel", "go", "()I"⟩, prog_14_method_94_code, 1, (Option.some FieldType.int))
def K_M_keep : ZK := (⟨"ThinkNumberModel", "keep", "()V"⟩, prog_14_method_93_code, 2, (Option.none : Option FieldType))
def K_M_undo : ZK := (⟨"ThinkNumberModel", "undo", "()I"⟩, prog_14_method_95_code, 1, (Option.some FieldType.int))
def K_M_value : ZK := (⟨"ThinkNumberModel", "value", "(Z)J"⟩, prog_14_method_96_code, 2, (Option.some FieldType.long))
def K_M_image : ZK := (⟨"ThinkNumberModel", "image", "()I"⟩, prog_14_method_97_code, 1, (Option.some FieldType.int))
def K_M_back : ZK := (⟨"ThinkNumberModel", "back", "()I"⟩, prog_14_method_98_code, 1, (Option.some FieldType.int))
def K_M_about : ZK := (⟨"ThinkNumberModel", "about", "(I)I"⟩, prog_14_method_99_code, 2, (Option.some FieldType.int))
theorem zo_0 : zob 0 "ThinkNumber" := ⟨⟨_, _, rfl⟩, fun _ _ _ _ => ⟨_, rfl⟩⟩
theorem zc_0_0 : zcR 0 0 1 (fun i => 0) := fun _ _ _ _ => ⟨_, rfl, rfl⟩
theorem zi_0_0 {i : Nat} (h : (0, i) ∈ zids) : (1, 0) ∈ zids := zmv (k := 0) (k2 := 1) (f := fun i => 0) (by decide +kernel) h
theorem zc_0_1 : zcR 0 1 2 (fun i => 0) := fun _ _ _ _ => ⟨_, rfl, rfl⟩
theorem zi_0_1 {i : Nat} (h : (0, i) ∈ zids) : (2, 0) ∈ zids := zmv (k := 0) (k2 := 2) (f := fun i => 0) (by decide +kernel) h
theorem zc_0_2 : zcR 0 2 21 (fun i => 0) := fun _ _ _ _ => ⟨_, rfl, rfl⟩
theorem zi_0_2 {i : Nat} (h : (0, i) ∈ zids) : (21, 0) ∈ zids := zmv (k := 0) (k2 := 21) (f := fun i => 0) (by decide +kernel) h
theorem zc_0_3 : zcR 0 3 5 (fun i => 0) := fun _ _ _ _ => ⟨_, rfl, rfl⟩
theorem zi_0_3 {i : Nat} (h : (0, i) ∈ zids) : (5, 0) ∈ zids := zmv (k := 0) (k2 := 5) (f := fun i => 0) (by decide +kernel) h
theorem zc_0_4 : zcR 0 4 5 (fun i => 1) := fun _ _ _ _ => ⟨_, rfl, rfl⟩
theorem zi_0_4 {i : Nat} (h : (0, i) ∈ zids) : (5, 1) ∈ zids := zmv (k := 0) (k2 := 5) (f := fun i => 1) (by decide +kernel) h
theorem zc_0_5 : zcR 0 5 7 (fun i => 0) := fun _ _ _ _ => ⟨_, rfl, rfl⟩
theorem zi_0_5 {i : Nat} (h : (0, i) ∈ zids) : (7, 0) ∈ zids := zmv (k := 0) (k2 := 7) (f := fun i => 0) (by decide +kernel) h
theorem zc_0_6 : zcR 0 6 7 (fun i => 1) := fun _ _ _ _ => ⟨_, rfl, rfl⟩
theorem zi_0_6 {i : Nat} (h : (0, i) ∈ zids) : (7, 1) ∈ zids := zmv (k := 0) (k2 := 7) (f := fun i => 1) (by decide +kernel) h
theorem zc_0_7 : zcR 0 7 26 (fun i => 2) := fun _ _ _ _ => ⟨_, rfl, rfl⟩
theorem zi_0_7 {i : Nat} (h : (0, i) ∈ zids) : (26, 2) ∈ zids := zmv (k := 0) (k2 := 26) (f := fun i => 2) (by decide +kernel) h
theorem zc_0_8 : zcR 0 8 8 (fun i => 0) := fun _ _ _ _ => ⟨_, rfl, rfl⟩
theorem zi_0_8 {i : Nat} (h : (0, i) ∈ zids) : (8, 0) ∈ zids := zmv (k := 0) (k2 := 8) (f := fun i => 0) (by decide +kernel) h
theorem zc_0_9 : zcR 0 9 9 (fun i => 0) := fun _ _ _ _ => ⟨_, rfl, rfl⟩
theorem zi_0_9 {i : Nat} (h : (0, i) ∈ zids) : (9, 0) ∈ zids := zmv (k := 0) (k2 := 9) (f := fun i => 0) (by decide +kernel) h
theorem zc_0_10 : zcR 0 10 10 (fun i => 0) := fun _ _ _ _ => ⟨_, rfl, rfl⟩
theorem zi_0_10 {i : Nat} (h : (0, i) ∈ zids) : (10, 0) ∈ zids := zmv (k := 0) (k2 := 10) (f := fun i => 0) (by decide +kernel) h
theorem zc_0_11 : zcR 0 11 11 (fun i => 0) := fun _ _ _ _ => ⟨_, rfl, rfl⟩
theorem zi_0_11 {i : Nat} (h : (0, i) ∈ zids) : (11, 0) ∈ zids := zmv (k := 0) (k2 := 11) (f := fun i => 0) (by decide +kernel) h
theorem zo_1 : zob 1 "ThinkNumber$Tape" := ⟨⟨_, _, rfl⟩, fun _ _ _ _ => ⟨_, rfl⟩⟩
theorem zc_1_0 : zcR 1 0 20 (fun i => 0) := fun _ _ _ _ => ⟨_, rfl, rfl⟩
theorem zi_1_0 {i : Nat} (h : (1, i) ∈ zids) : (20, 0) ∈ zids := zmv (k := 1) (k2 := 20) (f := fun i => 0) (by decide +kernel) h
theorem zc_1_1 : zcI 1 1 := fun _ _ _ _ => ⟨_, rfl, rfl⟩
theorem zp_1_1 : zpI 1 1 := fun _ _ _ _ _ => ⟨_, rfl, Nat.le_of_ble_eq_true rfl, rfl⟩
theorem zo_2 : zob 2 "ThinkNumber$Reader" := ⟨⟨_, _, rfl⟩, fun _ _ _ _ => ⟨_, rfl⟩⟩
theorem zc_2_0 : zcR 2 0 1 (fun i => 0) := fun _ _ _ _ => ⟨_, rfl, rfl⟩
theorem zi_2_0 {i : Nat} (h : (2, i) ∈ zids) : (1, 0) ∈ zids := zmv (k := 2) (k2 := 1) (f := fun i => 0) (by decide +kernel) h
theorem zc_2_1 : zcI 2 1 := fun _ _ _ _ => ⟨_, rfl, rfl⟩
theorem zp_2_1 : zpI 2 1 := fun _ _ _ _ _ => ⟨_, rfl, Nat.le_of_ble_eq_true rfl, rfl⟩
theorem zc_2_2 : zcI 2 2 := fun _ _ _ _ => ⟨_, rfl, rfl⟩
theorem zp_2_2 : zpI 2 2 := fun _ _ _ _ _ => ⟨_, rfl, Nat.le_of_ble_eq_true rfl, rfl⟩
theorem zc_2_3 : zcI 2 3 := fun _ _ _ _ => ⟨_, rfl, rfl⟩
theorem zp_2_3 : zpI 2 3 := fun _ _ _ _ _ => ⟨_, rfl, Nat.le_of_ble_eq_true rfl, rfl⟩
theorem zc_2_4 : zcI 2 4 := fun _ _ _ _ => ⟨_, rfl, rfl⟩
theorem zp_2_4 : zpI 2 4 := fun _ _ _ _ _ => ⟨_, rfl, Nat.le_of_ble_eq_true rfl, rfl⟩
theorem zc_2_5 : zcI 2 5 := fun _ _ _ _ => ⟨_, rfl, rfl⟩
theorem zp_2_5 : zpI 2 5 := fun _ _ _ _ _ => ⟨_, rfl, Nat.le_of_ble_eq_true rfl, rfl⟩
theorem zc_2_6 : zcI 2 6 := fun _ _ _ _ => ⟨_, rfl, rfl⟩
theorem zp_2_6 : zpI 2 6 := fun _ _ _ _ _ => ⟨_, rfl, Nat.le_of_ble_eq_true rfl, rfl⟩
theorem zo_3 : zob 3 "ThinkNumber$Table" := ⟨⟨_, _, rfl⟩, fun _ _ _ _ => ⟨_, rfl⟩⟩
theorem zc_3_0 : zcR 3 0 4 (fun i => i) := fun _ _ _ _ => ⟨_, rfl, rfl⟩
theorem zi_3_0 {i : Nat} (h : (3, i) ∈ zids) : (4, i) ∈ zids := zmv (k := 3) (k2 := 4) (f := fun i => i) (by decide +kernel) h
theorem zc_3_1 : zcR 3 1 24 (fun i => i) := fun _ _ _ _ => ⟨_, rfl, rfl⟩
theorem zi_3_1 {i : Nat} (h : (3, i) ∈ zids) : (24, i) ∈ zids := zmv (k := 3) (k2 := 24) (f := fun i => i) (by decide +kernel) h
theorem zc_3_2 : zcR 3 2 25 (fun i => i) := fun _ _ _ _ => ⟨_, rfl, rfl⟩
theorem zi_3_2 {i : Nat} (h : (3, i) ∈ zids) : (25, i) ∈ zids := zmv (k := 3) (k2 := 25) (f := fun i => i) (by decide +kernel) h
theorem zo_4 : zob 4 "ThinkNumber$Orders" := ⟨⟨_, _, rfl⟩, fun _ _ _ _ => ⟨_, rfl⟩⟩
theorem zc_4_0 : zcR 4 0 22 (fun i => i) := fun _ _ _ _ => ⟨_, rfl, rfl⟩
theorem zi_4_0 {i : Nat} (h : (4, i) ∈ zids) : (22, i) ∈ zids := zmv (k := 4) (k2 := 22) (f := fun i => i) (by decide +kernel) h
theorem zc_4_1 : zcR 4 1 23 (fun i => i) := fun _ _ _ _ => ⟨_, rfl, rfl⟩
theorem zi_4_1 {i : Nat} (h : (4, i) ∈ zids) : (23, i) ∈ zids := zmv (k := 4) (k2 := 23) (f := fun i => i) (by decide +kernel) h
theorem zc_4_2 : zcI 4 2 := fun _ _ _ _ => ⟨_, rfl, rfl⟩
theorem zp_4_2 : zpI 4 2 := fun _ _ _ _ _ => ⟨_, rfl, Nat.le_of_ble_eq_true rfl, rfl⟩
theorem zo_5 : zob 5 "ThinkNumber$State" := ⟨⟨_, _, rfl⟩, fun _ _ _ _ => ⟨_, rfl⟩⟩
theorem zc_5_0 : zcI 5 0 := fun _ _ _ _ => ⟨_, rfl, rfl⟩
theorem zp_5_0 : zpI 5 0 := fun _ _ _ _ _ => ⟨_, rfl, Nat.le_of_ble_eq_true rfl, rfl⟩
theorem zc_5_1 : zcR 5 1 26 (fun i => i) := fun _ _ _ _ => ⟨_, rfl, rfl⟩
theorem zi_5_1 {i : Nat} (h : (5, i) ∈ zids) : (26, i) ∈ zids := zmv (k := 5) (k2 := 26) (f := fun i => i) (by decide +kernel) h
theorem zc_5_2 : zcR 5 2 6 (fun i => 3 * i) := fun _ _ _ _ => ⟨_, rfl, rfl⟩
theorem zi_5_2 {i : Nat} (h : (5, i) ∈ zids) : (6, 3 * i) ∈ zids := zmv (k := 5) (k2 := 6) (f := fun i => 3 * i) (by decide +kernel) h
theorem zc_5_3 : zcR 5 3 6 (fun i => 3 * i + 1) := fun _ _ _ _ => ⟨_, rfl, rfl⟩
theorem zi_5_3 {i : Nat} (h : (5, i) ∈ zids) : (6, 3 * i + 1) ∈ zids := zmv (k := 5) (k2 := 6) (f := fun i => 3 * i + 1) (by decide +kernel) h
theorem zc_5_4 : zcR 5 4 4 (fun i => i + 4) := fun _ _ _ _ => ⟨_, rfl, rfl⟩
theorem zi_5_4 {i : Nat} (h : (5, i) ∈ zids) : (4, i + 4) ∈ zids := zmv (k := 5) (k2 := 4) (f := fun i => i + 4) (by decide +kernel) h
theorem zc_5_5 : zcR 5 5 27 (fun i => i) := fun _ _ _ _ => ⟨_, rfl, rfl⟩
theorem zi_5_5 {i : Nat} (h : (5, i) ∈ zids) : (27, i) ∈ zids := zmv (k := 5) (k2 := 27) (f := fun i => i) (by decide +kernel) h
theorem zc_5_6 : zcI 5 6 := fun _ _ _ _ => ⟨_, rfl, rfl⟩
theorem zp_5_6 : zpI 5 6 := fun _ _ _ _ _ => ⟨_, rfl, Nat.le_of_ble_eq_true rfl, rfl⟩
theorem zc_5_7 : zcI 5 7 := fun _ _ _ _ => ⟨_, rfl, rfl⟩
theorem zp_5_7 : zpI 5 7 := fun _ _ _ _ _ => ⟨_, rfl, Nat.le_of_ble_eq_true rfl, rfl⟩
theorem zc_5_8 : zcR 5 8 6 (fun i => 3 * i + 2) := fun _ _ _ _ => ⟨_, rfl, rfl⟩
theorem zi_5_8 {i : Nat} (h : (5, i) ∈ zids) : (6, 3 * i + 2) ∈ zids := zmv (k := 5) (k2 := 6) (f := fun i => 3 * i + 2) (by decide +kernel) h
theorem zo_6 : zob 6 "ThinkNumber$Values" := ⟨⟨_, _, rfl⟩, fun _ _ _ _ => ⟨_, rfl⟩⟩
theorem zc_6_0 : zcR 6 0 28 (fun i => i) := fun _ _ _ _ => ⟨_, rfl, rfl⟩
theorem zi_6_0 {i : Nat} (h : (6, i) ∈ zids) : (28, i) ∈ zids := zmv (k := 6) (k2 := 28) (f := fun i => i) (by decide +kernel) h
theorem zc_6_1 : zcR 6 1 29 (fun i => i) := fun _ _ _ _ => ⟨_, rfl, rfl⟩
theorem zi_6_1 {i : Nat} (h : (6, i) ∈ zids) : (29, i) ∈ zids := zmv (k := 6) (k2 := 29) (f := fun i => i) (by decide +kernel) h
theorem zc_6_2 : zcI 6 2 := fun _ _ _ _ => ⟨_, rfl, rfl⟩
theorem zp_6_2 : zpI 6 2 := fun _ _ _ _ _ => ⟨_, rfl, Nat.le_of_ble_eq_true rfl, rfl⟩
theorem zo_7 : zob 7 "ThinkNumber$Value" := ⟨⟨_, _, rfl⟩, fun _ _ _ _ => ⟨_, rfl⟩⟩
theorem zc_7_0 : zcJ 7 0 := fun _ _ _ _ => ⟨_, rfl, rfl⟩
theorem zp_7_0 : zpJ 7 0 := fun _ _ _ _ _ => ⟨_, rfl, Nat.le_of_ble_eq_true rfl, rfl⟩
theorem zc_7_1 : zcJ 7 1 := fun _ _ _ _ => ⟨_, rfl, rfl⟩
theorem zp_7_1 : zpJ 7 1 := fun _ _ _ _ _ => ⟨_, rfl, Nat.le_of_ble_eq_true rfl, rfl⟩
theorem zo_8 : zob 8 "ThinkNumber$Tally" := ⟨⟨_, _, rfl⟩, fun _ _ _ _ => ⟨_, rfl⟩⟩
theorem zc_8_0 : zcR 8 0 30 (fun i => 0) := fun _ _ _ _ => ⟨_, rfl, rfl⟩
theorem zi_8_0 {i : Nat} (h : (8, i) ∈ zids) : (30, 0) ∈ zids := zmv (k := 8) (k2 := 30) (f := fun i => 0) (by decide +kernel) h
theorem zc_8_1 : zcI 8 1 := fun _ _ _ _ => ⟨_, rfl, rfl⟩
theorem zp_8_1 : zpI 8 1 := fun _ _ _ _ _ => ⟨_, rfl, Nat.le_of_ble_eq_true rfl, rfl⟩
theorem zc_8_2 : zcI 8 2 := fun _ _ _ _ => ⟨_, rfl, rfl⟩
theorem zp_8_2 : zpI 8 2 := fun _ _ _ _ _ => ⟨_, rfl, Nat.le_of_ble_eq_true rfl, rfl⟩
theorem zc_8_3 : zcI 8 3 := fun _ _ _ _ => ⟨_, rfl, rfl⟩
theorem zp_8_3 : zpI 8 3 := fun _ _ _ _ _ => ⟨_, rfl, Nat.le_of_ble_eq_true rfl, rfl⟩
theorem zc_8_4 : zcI 8 4 := fun _ _ _ _ => ⟨_, rfl, rfl⟩
theorem zp_8_4 : zpI 8 4 := fun _ _ _ _ _ => ⟨_, rfl, Nat.le_of_ble_eq_true rfl, rfl⟩
theorem zo_9 : zob 9 "ThinkNumber$Sum" := ⟨⟨_, _, rfl⟩, fun _ _ _ _ => ⟨_, rfl⟩⟩
theorem zc_9_0 : zcR 9 0 31 (fun i => 0) := fun _ _ _ _ => ⟨_, rfl, rfl⟩
theorem zi_9_0 {i : Nat} (h : (9, i) ∈ zids) : (31, 0) ∈ zids := zmv (k := 9) (k2 := 31) (f := fun i => 0) (by decide +kernel) h
theorem zc_9_1 : zcJ 9 1 := fun _ _ _ _ => ⟨_, rfl, rfl⟩
theorem zp_9_1 : zpJ 9 1 := fun _ _ _ _ _ => ⟨_, rfl, Nat.le_of_ble_eq_true rfl, rfl⟩
theorem zo_10 : zob 10 "ThinkNumber$Parting" := ⟨⟨_, _, rfl⟩, fun _ _ _ _ => ⟨_, rfl⟩⟩
theorem zc_10_0 : zcR 10 0 32 (fun i => 0) := fun _ _ _ _ => ⟨_, rfl, rfl⟩
theorem zi_10_0 {i : Nat} (h : (10, i) ∈ zids) : (32, 0) ∈ zids := zmv (k := 10) (k2 := 32) (f := fun i => 0) (by decide +kernel) h
theorem zc_10_1 : zcR 10 1 33 (fun i => 0) := fun _ _ _ _ => ⟨_, rfl, rfl⟩
theorem zi_10_1 {i : Nat} (h : (10, i) ∈ zids) : (33, 0) ∈ zids := zmv (k := 10) (k2 := 33) (f := fun i => 0) (by decide +kernel) h
theorem zc_10_2 : zcR 10 2 34 (fun i => 0) := fun _ _ _ _ => ⟨_, rfl, rfl⟩
theorem zi_10_2 {i : Nat} (h : (10, i) ∈ zids) : (34, 0) ∈ zids := zmv (k := 10) (k2 := 34) (f := fun i => 0) (by decide +kernel) h
theorem zc_10_3 : zcR 10 3 35 (fun i => 0) := fun _ _ _ _ => ⟨_, rfl, rfl⟩
theorem zi_10_3 {i : Nat} (h : (10, i) ∈ zids) : (35, 0) ∈ zids := zmv (k := 10) (k2 := 35) (f := fun i => 0) (by decide +kernel) h
theorem zc_10_4 : zcR 10 4 36 (fun i => 0) := fun _ _ _ _ => ⟨_, rfl, rfl⟩
theorem zi_10_4 {i : Nat} (h : (10, i) ∈ zids) : (36, 0) ∈ zids := zmv (k := 10) (k2 := 36) (f := fun i => 0) (by decide +kernel) h
theorem zc_10_5 : zcI 10 5 := fun _ _ _ _ => ⟨_, rfl, rfl⟩
theorem zp_10_5 : zpI 10 5 := fun _ _ _ _ _ => ⟨_, rfl, Nat.le_of_ble_eq_true rfl, rfl⟩
theorem zo_11 : zob 11 "ThinkNumber$Maker" := ⟨⟨_, _, rfl⟩, fun _ _ _ _ => ⟨_, rfl⟩⟩
theorem zc_11_0 : zcR 11 0 37 (fun i => 0) := fun _ _ _ _ => ⟨_, rfl, rfl⟩
theorem zi_11_0 {i : Nat} (h : (11, i) ∈ zids) : (37, 0) ∈ zids := zmv (k := 11) (k2 := 37) (f := fun i => 0) (by decide +kernel) h
theorem zc_11_1 : zcR 11 1 26 (fun i => 3) := fun _ _ _ _ => ⟨_, rfl, rfl⟩
theorem zi_11_1 {i : Nat} (h : (11, i) ∈ zids) : (26, 3) ∈ zids := zmv (k := 11) (k2 := 26) (f := fun i => 3) (by decide +kernel) h
theorem zc_11_2 : zcR 11 2 7 (fun i => 2) := fun _ _ _ _ => ⟨_, rfl, rfl⟩
theorem zi_11_2 {i : Nat} (h : (11, i) ∈ zids) : (7, 2) ∈ zids := zmv (k := 11) (k2 := 7) (f := fun i => 2) (by decide +kernel) h
theorem zc_11_3 : zcR 11 3 39 (fun i => 0) := fun _ _ _ _ => ⟨_, rfl, rfl⟩
theorem zi_11_3 {i : Nat} (h : (11, i) ∈ zids) : (39, 0) ∈ zids := zmv (k := 11) (k2 := 39) (f := fun i => 0) (by decide +kernel) h
theorem zc_11_4 : zcI 11 4 := fun _ _ _ _ => ⟨_, rfl, rfl⟩
theorem zp_11_4 : zpI 11 4 := fun _ _ _ _ _ => ⟨_, rfl, Nat.le_of_ble_eq_true rfl, rfl⟩
theorem zc_11_5 : zcI 11 5 := fun _ _ _ _ => ⟨_, rfl, rfl⟩
theorem zp_11_5 : zpI 11 5 := fun _ _ _ _ _ => ⟨_, rfl, Nat.le_of_ble_eq_true rfl, rfl⟩
theorem zc_11_6 : zcI 11 6 := fun _ _ _ _ => ⟨_, rfl, rfl⟩
theorem zp_11_6 : zpI 11 6 := fun _ _ _ _ _ => ⟨_, rfl, Nat.le_of_ble_eq_true rfl, rfl⟩
theorem zo_12 : zob 12 "ThinkNumberModel" := ⟨⟨_, _, rfl⟩, fun _ _ _ _ => ⟨_, rfl⟩⟩
theorem zc_12_0 : zcR 12 0 40 (fun i => 0) := fun _ _ _ _ => ⟨_, rfl, rfl⟩
theorem zi_12_0 {i : Nat} (h : (12, i) ∈ zids) : (40, 0) ∈ zids := zmv (k := 12) (k2 := 40) (f := fun i => 0) (by decide +kernel) h
theorem zc_12_1 : zcR 12 1 40 (fun i => 1) := fun _ _ _ _ => ⟨_, rfl, rfl⟩
theorem zi_12_1 {i : Nat} (h : (12, i) ∈ zids) : (40, 1) ∈ zids := zmv (k := 12) (k2 := 40) (f := fun i => 1) (by decide +kernel) h
theorem zc_12_2 : zcR 12 2 41 (fun i => 0) := fun _ _ _ _ => ⟨_, rfl, rfl⟩
theorem zi_12_2 {i : Nat} (h : (12, i) ∈ zids) : (41, 0) ∈ zids := zmv (k := 12) (k2 := 41) (f := fun i => 0) (by decide +kernel) h
theorem zc_12_3 : zcR 12 3 41 (fun i => 1) := fun _ _ _ _ => ⟨_, rfl, rfl⟩
theorem zi_12_3 {i : Nat} (h : (12, i) ∈ zids) : (41, 1) ∈ zids := zmv (k := 12) (k2 := 41) (f := fun i => 1) (by decide +kernel) h
theorem zc_12_4 : zcR 12 4 42 (fun i => 0) := fun _ _ _ _ => ⟨_, rfl, rfl⟩
theorem zi_12_4 {i : Nat} (h : (12, i) ∈ zids) : (42, 0) ∈ zids := zmv (k := 12) (k2 := 42) (f := fun i => 0) (by decide +kernel) h
theorem zc_12_5 : zcR 12 5 43 (fun i => 0) := fun _ _ _ _ => ⟨_, rfl, rfl⟩
theorem zi_12_5 {i : Nat} (h : (12, i) ∈ zids) : (43, 0) ∈ zids := zmv (k := 12) (k2 := 43) (f := fun i => 0) (by decide +kernel) h
theorem zc_12_6 : zcI 12 6 := fun _ _ _ _ => ⟨_, rfl, rfl⟩
theorem zp_12_6 : zpI 12 6 := fun _ _ _ _ _ => ⟨_, rfl, Nat.le_of_ble_eq_true rfl, rfl⟩
theorem zc_12_7 : zcI 12 7 := fun _ _ _ _ => ⟨_, rfl, rfl⟩
theorem zp_12_7 : zpI 12 7 := fun _ _ _ _ _ => ⟨_, rfl, Nat.le_of_ble_eq_true rfl, rfl⟩
theorem zc_12_8 : zcI 12 8 := fun _ _ _ _ => ⟨_, rfl, rfl⟩
theorem zp_12_8 : zpI 12 8 := fun _ _ _ _ _ => ⟨_, rfl, Nat.le_of_ble_eq_true rfl, rfl⟩
theorem zc_12_9 : zcI 12 9 := fun _ _ _ _ => ⟨_, rfl, rfl⟩
theorem zp_12_9 : zpI 12 9 := fun _ _ _ _ _ => ⟨_, rfl, Nat.le_of_ble_eq_true rfl, rfl⟩
theorem zc_12_10 : zcI 12 10 := fun _ _ _ _ => ⟨_, rfl, rfl⟩
theorem zp_12_10 : zpI 12 10 := fun _ _ _ _ _ => ⟨_, rfl, Nat.le_of_ble_eq_true rfl, rfl⟩
theorem zc_12_11 : zcI 12 11 := fun _ _ _ _ => ⟨_, rfl, rfl⟩
theorem zp_12_11 : zpI 12 11 := fun _ _ _ _ _ => ⟨_, rfl, Nat.le_of_ble_eq_true rfl, rfl⟩
theorem zc_12_12 : zcI 12 12 := fun _ _ _ _ => ⟨_, rfl, rfl⟩
theorem zp_12_12 : zpI 12 12 := fun _ _ _ _ _ => ⟨_, rfl, Nat.le_of_ble_eq_true rfl, rfl⟩
theorem zc_12_13 : zcI 12 13 := fun _ _ _ _ => ⟨_, rfl, rfl⟩
theorem zp_12_13 : zpI 12 13 := fun _ _ _ _ _ => ⟨_, rfl, Nat.le_of_ble_eq_true rfl, rfl⟩
theorem zc_12_14 : zcJ 12 14 := fun _ _ _ _ => ⟨_, rfl, rfl⟩
theorem zp_12_14 : zpJ 12 14 := fun _ _ _ _ _ => ⟨_, rfl, Nat.le_of_ble_eq_true rfl, rfl⟩
theorem zc_12_15 : zcJ 12 15 := fun _ _ _ _ => ⟨_, rfl, rfl⟩
theorem zp_12_15 : zpJ 12 15 := fun _ _ _ _ _ => ⟨_, rfl, Nat.le_of_ble_eq_true rfl, rfl⟩
theorem zc_12_16 : zcJ 12 16 := fun _ _ _ _ => ⟨_, rfl, rfl⟩
theorem zp_12_16 : zpJ 12 16 := fun _ _ _ _ _ => ⟨_, rfl, Nat.le_of_ble_eq_true rfl, rfl⟩
theorem zc_12_17 : zcR 12 17 44 (fun i => 0) := fun _ _ _ _ => ⟨_, rfl, rfl⟩
theorem zi_12_17 {i : Nat} (h : (12, i) ∈ zids) : (44, 0) ∈ zids := zmv (k := 12) (k2 := 44) (f := fun i => 0) (by decide +kernel) h
theorem zc_12_18 : zcR 12 18 45 (fun i => 0) := fun _ _ _ _ => ⟨_, rfl, rfl⟩
theorem zi_12_18 {i : Nat} (h : (12, i) ∈ zids) : (45, 0) ∈ zids := zmv (k := 12) (k2 := 45) (f := fun i => 0) (by decide +kernel) h
theorem zc_12_19 : zcR 12 19 46 (fun i => 0) := fun _ _ _ _ => ⟨_, rfl, rfl⟩
theorem zi_12_19 {i : Nat} (h : (12, i) ∈ zids) : (46, 0) ∈ zids := zmv (k := 12) (k2 := 46) (f := fun i => 0) (by decide +kernel) h
theorem zc_12_20 : zcR 12 20 47 (fun i => 0) := fun _ _ _ _ => ⟨_, rfl, rfl⟩
theorem zi_12_20 {i : Nat} (h : (12, i) ∈ zids) : (47, 0) ∈ zids := zmv (k := 12) (k2 := 47) (f := fun i => 0) (by decide +kernel) h
theorem zc_12_21 : zcR 12 21 48 (fun i => 0) := fun _ _ _ _ => ⟨_, rfl, rfl⟩
theorem zi_12_21 {i : Nat} (h : (12, i) ∈ zids) : (48, 0) ∈ zids := zmv (k := 12) (k2 := 48) (f := fun i => 0) (by decide +kernel) h
theorem zc_12_22 : zcR 12 22 49 (fun i => 0) := fun _ _ _ _ => ⟨_, rfl, rfl⟩
theorem zi_12_22 {i : Nat} (h : (12, i) ∈ zids) : (49, 0) ∈ zids := zmv (k := 12) (k2 := 49) (f := fun i => 0) (by decide +kernel) h
theorem zc_12_23 : zcR 12 23 50 (fun i => 0) := fun _ _ _ _ => ⟨_, rfl, rfl⟩
theorem zi_12_23 {i : Nat} (h : (12, i) ∈ zids) : (50, 0) ∈ zids := zmv (k := 12) (k2 := 50) (f := fun i => 0) (by decide +kernel) h
theorem zc_12_24 : zcR 12 24 51 (fun i => 0) := fun _ _ _ _ => ⟨_, rfl, rfl⟩
theorem zi_12_24 {i : Nat} (h : (12, i) ∈ zids) : (51, 0) ∈ zids := zmv (k := 12) (k2 := 51) (f := fun i => 0) (by decide +kernel) h
theorem zc_12_25 : zcR 12 25 52 (fun i => 0) := fun _ _ _ _ => ⟨_, rfl, rfl⟩
theorem zi_12_25 {i : Nat} (h : (12, i) ∈ zids) : (52, 0) ∈ zids := zmv (k := 12) (k2 := 52) (f := fun i => 0) (by decide +kernel) h
theorem za_20 : zaB 20 := fun _ _ _ _ => rfl
theorem za_22 : zaI 22 := fun _ _ _ _ => rfl
theorem za_23 : zaI 23 := fun _ _ _ _ => rfl
theorem za_24 : zaI 24 := fun _ _ _ _ => rfl
theorem za_25 : zaI 25 := fun _ _ _ _ => rfl
theorem za_26 : zaI 26 := fun _ _ _ _ => rfl
theorem za_27 : zaI 27 := fun _ _ _ _ => rfl
theorem za_28 : zaJ 28 := fun _ _ _ _ => rfl
theorem za_29 : zaJ 29 := fun _ _ _ _ => rfl
theorem za_30 : zaJ 30 := fun _ _ _ _ => rfl
theorem za_31 : zaJ 31 := fun _ _ _ _ => rfl
theorem za_32 : zaJ 32 := fun _ _ _ _ => rfl
theorem za_33 : zaJ 33 := fun _ _ _ _ => rfl
theorem za_34 : zaI 34 := fun _ _ _ _ => rfl
theorem za_35 : zaI 35 := fun _ _ _ _ => rfl
theorem za_36 : zaI 36 := fun _ _ _ _ => rfl
theorem za_38 : zaJ 38 := fun _ _ _ _ => rfl
theorem za_39 : zaI 39 := fun _ _ _ _ => rfl
theorem za_40 : zaI 40 := fun _ _ _ _ => rfl
theorem za_41 : zaJ 41 := fun _ _ _ _ => rfl
theorem za_42 : zaI 42 := fun _ _ _ _ => rfl
theorem za_43 : zaI 43 := fun _ _ _ _ => rfl
theorem za_44 : zaI 44 := fun _ _ _ _ => rfl
theorem za_45 : zaJ 45 := fun _ _ _ _ => rfl
theorem za_46 : zaZ 46 := fun _ _ _ _ => rfl
theorem za_47 : zaJ 47 := fun _ _ _ _ => rfl
theorem za_48 : zaJ 48 := fun _ _ _ _ => rfl
theorem za_49 : zaI 49 := fun _ _ _ _ => rfl
theorem za_50 : zaI 50 := fun _ _ _ _ => rfl
theorem za_51 : zaI 51 := fun _ _ _ _ => rfl
theorem za_52 : zaI 52 := fun _ _ _ _ => rfl
theorem zw_A_10 : Cond.fieldLink "ThinkNumber" 10 "ThinkNumber" "tape" "LThinkNumber$Tape;" ∈ tb := tb_in (List.mem_append_right _ (List.mem_append_left _ (List.mem_of_getElem? (i := 73) rfl))) rfl
theorem zf_A_10 : zlk "ThinkNumber" 10 0 0 := ⟨_, _, _, rfl, Nat.le_of_ble_eq_true rfl, zw_A_10⟩
theorem zw_A_21 : Cond.fieldLink "ThinkNumber" 21 "ThinkNumber" "reader" "LThinkNumber$Reader;" ∈ tb := tb_in (List.mem_append_right _ (List.mem_append_left _ (List.mem_of_getElem? (i := 74) rfl))) rfl
theorem zf_A_21 : zlk "ThinkNumber" 21 0 1 := ⟨_, _, _, rfl, Nat.le_of_ble_eq_true rfl, zw_A_21⟩
theorem zw_A_27 : Cond.fieldLink "ThinkNumber" 27 "ThinkNumber" "tables" "[LThinkNumber$Table;" ∈ tb := tb_in (List.mem_append_right _ (List.mem_append_left _ (List.mem_of_getElem? (i := 75) rfl))) rfl
theorem zf_A_27 : zlk "ThinkNumber" 27 0 2 := ⟨_, _, _, rfl, Nat.le_of_ble_eq_true rfl, zw_A_27⟩
theorem zw_A_35 : Cond.fieldLink "ThinkNumber" 35 "ThinkNumber" "now" "LThinkNumber$State;" ∈ tb := tb_in (List.mem_append_right _ (List.mem_append_left _ (List.mem_of_getElem? (i := 76) rfl))) rfl
theorem zf_A_35 : zlk "ThinkNumber" 35 0 3 := ⟨_, _, _, rfl, Nat.le_of_ble_eq_true rfl, zw_A_35⟩
theorem zw_A_39 : Cond.fieldLink "ThinkNumber" 39 "ThinkNumber" "kept" "LThinkNumber$State;" ∈ tb := tb_in (List.mem_append_right _ (List.mem_append_left _ (List.mem_of_getElem? (i := 77) rfl))) rfl
theorem zf_A_39 : zlk "ThinkNumber" 39 0 4 := ⟨_, _, _, rfl, Nat.le_of_ble_eq_true rfl, zw_A_39⟩
theorem zw_A_45 : Cond.fieldLink "ThinkNumber" 45 "ThinkNumber" "at" "LThinkNumber$Value;" ∈ tb := tb_in (List.mem_append_right _ (List.mem_append_left _ (List.mem_of_getElem? (i := 78) rfl))) rfl
theorem zf_A_45 : zlk "ThinkNumber" 45 0 5 := ⟨_, _, _, rfl, Nat.le_of_ble_eq_true rfl, zw_A_45⟩
theorem zw_A_49 : Cond.fieldLink "ThinkNumber" 49 "ThinkNumber" "other" "LThinkNumber$Value;" ∈ tb := tb_in (List.mem_append_right _ (List.mem_append_left _ (List.mem_of_getElem? (i := 79) rfl))) rfl
theorem zf_A_49 : zlk "ThinkNumber" 49 0 6 := ⟨_, _, _, rfl, Nat.le_of_ble_eq_true rfl, zw_A_49⟩
theorem zw_A_52 : Cond.fieldLink "ThinkNumber" 52 "ThinkNumber" "maybe" "[I" ∈ tb := tb_in (List.mem_append_right _ (List.mem_append_left _ (List.mem_of_getElem? (i := 80) rfl))) rfl
theorem zf_A_52 : zlk "ThinkNumber" 52 0 7 := ⟨_, _, _, rfl, Nat.le_of_ble_eq_true rfl, zw_A_52⟩
theorem zw_A_59 : Cond.fieldLink "ThinkNumber" 59 "ThinkNumber" "tally" "LThinkNumber$Tally;" ∈ tb := tb_in (List.mem_append_right _ (List.mem_append_left _ (List.mem_of_getElem? (i := 81) rfl))) rfl
theorem zf_A_59 : zlk "ThinkNumber" 59 0 8 := ⟨_, _, _, rfl, Nat.le_of_ble_eq_true rfl, zw_A_59⟩
theorem zw_A_66 : Cond.fieldLink "ThinkNumber" 66 "ThinkNumber" "sum" "LThinkNumber$Sum;" ∈ tb := tb_in (List.mem_append_right _ (List.mem_append_left _ (List.mem_of_getElem? (i := 82) rfl))) rfl
theorem zf_A_66 : zlk "ThinkNumber" 66 0 9 := ⟨_, _, _, rfl, Nat.le_of_ble_eq_true rfl, zw_A_66⟩
theorem zw_A_73 : Cond.fieldLink "ThinkNumber" 73 "ThinkNumber" "parting" "LThinkNumber$Parting;" ∈ tb := tb_in (List.mem_append_right _ (List.mem_append_left _ (List.mem_of_getElem? (i := 83) rfl))) rfl
theorem zf_A_73 : zlk "ThinkNumber" 73 0 10 := ⟨_, _, _, rfl, Nat.le_of_ble_eq_true rfl, zw_A_73⟩
theorem zw_A_80 : Cond.fieldLink "ThinkNumber" 80 "ThinkNumber" "maker" "LThinkNumber$Maker;" ∈ tb := tb_in (List.mem_append_right _ (List.mem_append_left _ (List.mem_of_getElem? (i := 84) rfl))) rfl
theorem zf_A_80 : zlk "ThinkNumber" 80 0 11 := ⟨_, _, _, rfl, Nat.le_of_ble_eq_true rfl, zw_A_80⟩
theorem zw_A_88 : Cond.fieldLink "ThinkNumber" 88 "ThinkNumber$State" "thought" "[I" ∈ tb := tb_in (List.mem_append_left _ (List.mem_of_getElem? (i := 162) rfl)) rfl
theorem zf_A_88 : zlk "ThinkNumber" 88 5 1 := ⟨_, _, _, rfl, Nat.le_of_ble_eq_true rfl, zw_A_88⟩
theorem zw_A_99 : Cond.fieldLink "ThinkNumber" 99 "ThinkNumber$Tape" "length" "I" ∈ tb := tb_in (List.mem_append_left _ (List.mem_of_getElem? (i := 39) rfl)) rfl
theorem zf_A_99 : zlk "ThinkNumber" 99 1 1 := ⟨_, _, _, rfl, Nat.le_of_ble_eq_true rfl, zw_A_99⟩
theorem zq_A_99 : zlkP "ThinkNumber" 99 1 1 .int := ⟨_, _, _, rfl, Nat.le_of_ble_eq_true rfl, zw_A_99, rfl, by decide +kernel⟩
theorem zw_A_103 : Cond.fieldLink "ThinkNumber" 103 "ThinkNumber$State" "tables" "I" ∈ tb := tb_in (List.mem_append_left _ (List.mem_of_getElem? (i := 160) rfl)) rfl
theorem zf_A_103 : zlk "ThinkNumber" 103 5 0 := ⟨_, _, _, rfl, Nat.le_of_ble_eq_true rfl, zw_A_103⟩
theorem zq_A_103 : zlkP "ThinkNumber" 103 5 0 .int := ⟨_, _, _, rfl, Nat.le_of_ble_eq_true rfl, zw_A_103, rfl, by decide +kernel⟩
theorem zw_A_109 : Cond.fieldLink "ThinkNumber" 109 "ThinkNumber$Reader" "fault" "I" ∈ tb := tb_in (List.mem_append_left _ (List.mem_of_getElem? (i := 55) rfl)) rfl
theorem zf_A_109 : zlk "ThinkNumber" 109 2 1 := ⟨_, _, _, rfl, Nat.le_of_ble_eq_true rfl, zw_A_109⟩
theorem zq_A_109 : zlkP "ThinkNumber" 109 2 1 .int := ⟨_, _, _, rfl, Nat.le_of_ble_eq_true rfl, zw_A_109, rfl, by decide +kernel⟩
theorem zw_A_112 : Cond.fieldLink "ThinkNumber" 112 "ThinkNumber$Reader" "place" "I" ∈ tb := tb_in (List.mem_append_left _ (List.mem_of_getElem? (i := 57) rfl)) rfl
theorem zf_A_112 : zlk "ThinkNumber" 112 2 2 := ⟨_, _, _, rfl, Nat.le_of_ble_eq_true rfl, zw_A_112⟩
theorem zq_A_112 : zlkP "ThinkNumber" 112 2 2 .int := ⟨_, _, _, rfl, Nat.le_of_ble_eq_true rfl, zw_A_112, rfl, by decide +kernel⟩
theorem zw_A_119 : Cond.fieldLink "ThinkNumber" 119 "ThinkNumber$Table" "orders" "LThinkNumber$Orders;" ∈ tb := tb_in (List.mem_append_left _ (List.mem_of_getElem? (i := 117) rfl)) rfl
theorem zf_A_119 : zlk "ThinkNumber" 119 3 0 := ⟨_, _, _, rfl, Nat.le_of_ble_eq_true rfl, zw_A_119⟩
theorem zw_A_123 : Cond.fieldLink "ThinkNumber" 123 "ThinkNumber$Orders" "count" "I" ∈ tb := tb_in (List.mem_append_left _ (List.mem_of_getElem? (i := 104) rfl)) rfl
theorem zf_A_123 : zlk "ThinkNumber" 123 4 2 := ⟨_, _, _, rfl, Nat.le_of_ble_eq_true rfl, zw_A_123⟩
theorem zq_A_123 : zlkP "ThinkNumber" 123 4 2 .int := ⟨_, _, _, rfl, Nat.le_of_ble_eq_true rfl, zw_A_123, rfl, by decide +kernel⟩
theorem zw_A_131 : Cond.fieldLink "ThinkNumber" 131 "ThinkNumber$Orders" "xs" "[I" ∈ tb := tb_in (List.mem_append_left _ (List.mem_of_getElem? (i := 98) rfl)) rfl
theorem zf_A_131 : zlk "ThinkNumber" 131 4 1 := ⟨_, _, _, rfl, Nat.le_of_ble_eq_true rfl, zw_A_131⟩
theorem zw_A_134 : Cond.fieldLink "ThinkNumber" 134 "ThinkNumber$Orders" "kinds" "[I" ∈ tb := tb_in (List.mem_append_left _ (List.mem_of_getElem? (i := 95) rfl)) rfl
theorem zf_A_134 : zlk "ThinkNumber" 134 4 0 := ⟨_, _, _, rfl, Nat.le_of_ble_eq_true rfl, zw_A_134⟩
theorem zw_A_140 : Cond.fieldLink "ThinkNumber" 140 "ThinkNumber$Table" "last" "[I" ∈ tb := tb_in (List.mem_append_left _ (List.mem_of_getElem? (i := 123) rfl)) rfl
theorem zf_A_140 : zlk "ThinkNumber" 140 3 2 := ⟨_, _, _, rfl, Nat.le_of_ble_eq_true rfl, zw_A_140⟩
theorem zw_A_143 : Cond.fieldLink "ThinkNumber" 143 "ThinkNumber$Table" "first" "[I" ∈ tb := tb_in (List.mem_append_left _ (List.mem_of_getElem? (i := 120) rfl)) rfl
theorem zf_A_143 : zlk "ThinkNumber" 143 3 1 := ⟨_, _, _, rfl, Nat.le_of_ble_eq_true rfl, zw_A_143⟩
theorem zw_A_168 : Cond.fieldLink "ThinkNumber" 168 "ThinkNumber$State" "claims" "LThinkNumber$Values;" ∈ tb := tb_in (List.mem_append_left _ (List.mem_of_getElem? (i := 164) rfl)) rfl
theorem zf_A_168 : zlk "ThinkNumber" 168 5 2 := ⟨_, _, _, rfl, Nat.le_of_ble_eq_true rfl, zw_A_168⟩
theorem zw_A_178 : Cond.fieldLink "ThinkNumber" 178 "ThinkNumber$Values" "count" "I" ∈ tb := tb_in (List.mem_append_left _ (List.mem_of_getElem? (i := 148) rfl)) rfl
theorem zf_A_178 : zlk "ThinkNumber" 178 6 2 := ⟨_, _, _, rfl, Nat.le_of_ble_eq_true rfl, zw_A_178⟩
theorem zq_A_178 : zlkP "ThinkNumber" 178 6 2 .int := ⟨_, _, _, rfl, Nat.le_of_ble_eq_true rfl, zw_A_178, rfl, by decide +kernel⟩
theorem zw_A_201 : Cond.fieldLink "ThinkNumber" 201 "ThinkNumber$Sum" "parts" "[J" ∈ tb := tb_in (List.mem_append_right _ (List.mem_append_left _ (List.mem_of_getElem? (i := 7) rfl))) rfl
theorem zf_A_201 : zlk "ThinkNumber" 201 9 0 := ⟨_, _, _, rfl, Nat.le_of_ble_eq_true rfl, zw_A_201⟩
theorem zw_A_205 : Cond.fieldLink "ThinkNumber" 205 "ThinkNumber$Sum" "low" "J" ∈ tb := tb_in (List.mem_append_right _ (List.mem_append_left _ (List.mem_of_getElem? (i := 9) rfl))) rfl
theorem zf_A_205 : zlk "ThinkNumber" 205 9 1 := ⟨_, _, _, rfl, Nat.le_of_ble_eq_true rfl, zw_A_205⟩
theorem zq_A_205 : zlkP "ThinkNumber" 205 9 1 .long := ⟨_, _, _, rfl, Nat.le_of_ble_eq_true rfl, zw_A_205, rfl, by decide +kernel⟩
theorem zw_A_209 : Cond.fieldLink "ThinkNumber" 209 "ThinkNumber$State" "heard" "LThinkNumber$Values;" ∈ tb := tb_in (List.mem_append_left _ (List.mem_of_getElem? (i := 166) rfl)) rfl
theorem zf_A_209 : zlk "ThinkNumber" 209 5 3 := ⟨_, _, _, rfl, Nat.le_of_ble_eq_true rfl, zw_A_209⟩
theorem zw_A_229 : Cond.fieldLink "ThinkNumber" 229 "ThinkNumber$Tally" "count" "I" ∈ tb := tb_in (List.mem_append_left _ (List.mem_of_getElem? (i := 225) rfl)) rfl
theorem zf_A_229 : zlk "ThinkNumber" 229 8 1 := ⟨_, _, _, rfl, Nat.le_of_ble_eq_true rfl, zw_A_229⟩
theorem zq_A_229 : zlkP "ThinkNumber" 229 8 1 .int := ⟨_, _, _, rfl, Nat.le_of_ble_eq_true rfl, zw_A_229, rfl, by decide +kernel⟩
theorem zw_A_240 : Cond.fieldLink "ThinkNumber" 240 "ThinkNumber$State" "kit" "LThinkNumber$Orders;" ∈ tb := tb_in (List.mem_append_left _ (List.mem_of_getElem? (i := 168) rfl)) rfl
theorem zf_A_240 : zlk "ThinkNumber" 240 5 4 := ⟨_, _, _, rfl, Nat.le_of_ble_eq_true rfl, zw_A_240⟩
theorem zw_A_250 : Cond.fieldLink "ThinkNumber" 250 "ThinkNumber$Maker" "chosen" "[I" ∈ tb := tb_in (List.mem_append_right _ (List.mem_append_left _ (List.mem_of_getElem? (i := 54) rfl))) rfl
theorem zf_A_250 : zlk "ThinkNumber" 250 11 3 := ⟨_, _, _, rfl, Nat.le_of_ble_eq_true rfl, zw_A_250⟩
theorem zw_A_264 : Cond.fieldLink "ThinkNumber" 264 "ThinkNumber$Value" "up" "J" ∈ tb := tb_in (List.mem_append_left _ (List.mem_of_getElem? (i := 206) rfl)) rfl
theorem zf_A_264 : zlk "ThinkNumber" 264 7 0 := ⟨_, _, _, rfl, Nat.le_of_ble_eq_true rfl, zw_A_264⟩
theorem zq_A_264 : zlkP "ThinkNumber" 264 7 0 .long := ⟨_, _, _, rfl, Nat.le_of_ble_eq_true rfl, zw_A_264, rfl, by decide +kernel⟩
theorem zw_A_267 : Cond.fieldLink "ThinkNumber" 267 "ThinkNumber$Value" "low" "J" ∈ tb := tb_in (List.mem_append_left _ (List.mem_of_getElem? (i := 211) rfl)) rfl
theorem zf_A_267 : zlk "ThinkNumber" 267 7 1 := ⟨_, _, _, rfl, Nat.le_of_ble_eq_true rfl, zw_A_267⟩
theorem zq_A_267 : zlkP "ThinkNumber" 267 7 1 .long := ⟨_, _, _, rfl, Nat.le_of_ble_eq_true rfl, zw_A_267, rfl, by decide +kernel⟩
theorem zw_A_271 : Cond.fieldLink "ThinkNumber" 271 "ThinkNumber$State" "askCount" "I" ∈ tb := tb_in (List.mem_append_left _ (List.mem_of_getElem? (i := 172) rfl)) rfl
theorem zf_A_271 : zlk "ThinkNumber" 271 5 6 := ⟨_, _, _, rfl, Nat.le_of_ble_eq_true rfl, zw_A_271⟩
theorem zq_A_271 : zlkP "ThinkNumber" 271 5 6 .int := ⟨_, _, _, rfl, Nat.le_of_ble_eq_true rfl, zw_A_271, rfl, by decide +kernel⟩
theorem zw_A_274 : Cond.fieldLink "ThinkNumber" 274 "ThinkNumber$State" "asks" "[I" ∈ tb := tb_in (List.mem_append_left _ (List.mem_of_getElem? (i := 170) rfl)) rfl
theorem zf_A_274 : zlk "ThinkNumber" 274 5 5 := ⟨_, _, _, rfl, Nat.le_of_ble_eq_true rfl, zw_A_274⟩
theorem zw_A_290 : Cond.fieldLink "ThinkNumber" 290 "ThinkNumber$State" "playedTable" "I" ∈ tb := tb_in (List.mem_append_left _ (List.mem_of_getElem? (i := 174) rfl)) rfl
theorem zf_A_290 : zlk "ThinkNumber" 290 5 7 := ⟨_, _, _, rfl, Nat.le_of_ble_eq_true rfl, zw_A_290⟩
theorem zq_A_290 : zlkP "ThinkNumber" 290 5 7 .int := ⟨_, _, _, rfl, Nat.le_of_ble_eq_true rfl, zw_A_290, rfl, by decide +kernel⟩
theorem zw_A_293 : Cond.fieldLink "ThinkNumber" 293 "ThinkNumber$State" "trail" "LThinkNumber$Values;" ∈ tb := tb_in (List.mem_append_left _ (List.mem_of_getElem? (i := 176) rfl)) rfl
theorem zf_A_293 : zlk "ThinkNumber" 293 5 8 := ⟨_, _, _, rfl, Nat.le_of_ble_eq_true rfl, zw_A_293⟩
theorem zw_Maker_11 : Cond.fieldLink "ThinkNumber$Maker" 11 "ThinkNumber$Maker" "levels" "[[J" ∈ tb := tb_in (List.mem_append_right _ (List.mem_append_left _ (List.mem_of_getElem? (i := 50) rfl))) rfl
theorem zf_Maker_11 : zlk "ThinkNumber$Maker" 11 11 0 := ⟨_, _, _, rfl, Nat.le_of_ble_eq_true rfl, zw_Maker_11⟩
theorem zw_Maker_16 : Cond.fieldLink "ThinkNumber$Maker" 16 "ThinkNumber$Maker" "thought" "[I" ∈ tb := tb_in (List.mem_append_right _ (List.mem_append_left _ (List.mem_of_getElem? (i := 51) rfl))) rfl
theorem zf_Maker_16 : zlk "ThinkNumber$Maker" 16 11 1 := ⟨_, _, _, rfl, Nat.le_of_ble_eq_true rfl, zw_Maker_16⟩
theorem zw_Maker_23 : Cond.fieldLink "ThinkNumber$Maker" 23 "ThinkNumber$Maker" "value" "LThinkNumber$Value;" ∈ tb := tb_in (List.mem_append_right _ (List.mem_append_left _ (List.mem_of_getElem? (i := 52) rfl))) rfl
theorem zf_Maker_23 : zlk "ThinkNumber$Maker" 23 11 2 := ⟨_, _, _, rfl, Nat.le_of_ble_eq_true rfl, zw_Maker_23⟩
theorem zw_Maker_27 : Cond.fieldLink "ThinkNumber$Maker" 27 "ThinkNumber$Maker" "chosen" "[I" ∈ tb := tb_in (List.mem_append_right _ (List.mem_append_left _ (List.mem_of_getElem? (i := 53) rfl))) rfl
theorem zf_Maker_27 : zlk "ThinkNumber$Maker" 27 11 3 := ⟨_, _, _, rfl, Nat.le_of_ble_eq_true rfl, zw_Maker_27⟩
theorem zw_Maker_30 : Cond.fieldLink "ThinkNumber$Maker" 30 "ThinkNumber$Maker" "low" "I" ∈ tb := tb_in (List.mem_append_right _ (List.mem_append_left _ (List.mem_of_getElem? (i := 55) rfl))) rfl
theorem zf_Maker_30 : zlk "ThinkNumber$Maker" 30 11 4 := ⟨_, _, _, rfl, Nat.le_of_ble_eq_true rfl, zw_Maker_30⟩
theorem zq_Maker_30 : zlkP "ThinkNumber$Maker" 30 11 4 .int := ⟨_, _, _, rfl, Nat.le_of_ble_eq_true rfl, zw_Maker_30, rfl, by decide +kernel⟩
theorem zw_Maker_34 : Cond.fieldLink "ThinkNumber$Maker" 34 "ThinkNumber$Maker" "goal" "I" ∈ tb := tb_in (List.mem_append_right _ (List.mem_append_left _ (List.mem_of_getElem? (i := 57) rfl))) rfl
theorem zf_Maker_34 : zlk "ThinkNumber$Maker" 34 11 6 := ⟨_, _, _, rfl, Nat.le_of_ble_eq_true rfl, zw_Maker_34⟩
theorem zq_Maker_34 : zlkP "ThinkNumber$Maker" 34 11 6 .int := ⟨_, _, _, rfl, Nat.le_of_ble_eq_true rfl, zw_Maker_34, rfl, by decide +kernel⟩
theorem zw_Maker_43 : Cond.fieldLink "ThinkNumber$Maker" 43 "ThinkNumber$Maker" "numbers" "I" ∈ tb := tb_in (List.mem_append_right _ (List.mem_append_left _ (List.mem_of_getElem? (i := 56) rfl))) rfl
theorem zf_Maker_43 : zlk "ThinkNumber$Maker" 43 11 5 := ⟨_, _, _, rfl, Nat.le_of_ble_eq_true rfl, zw_Maker_43⟩
theorem zq_Maker_43 : zlkP "ThinkNumber$Maker" 43 11 5 .int := ⟨_, _, _, rfl, Nat.le_of_ble_eq_true rfl, zw_Maker_43, rfl, by decide +kernel⟩
theorem zw_Maker_50 : Cond.fieldLink "ThinkNumber$Maker" 50 "ThinkNumber$Orders" "count" "I" ∈ tb := tb_in (List.mem_append_left _ (List.mem_of_getElem? (i := 103) rfl)) rfl
theorem zf_Maker_50 : zlk "ThinkNumber$Maker" 50 4 2 := ⟨_, _, _, rfl, Nat.le_of_ble_eq_true rfl, zw_Maker_50⟩
theorem zq_Maker_50 : zlkP "ThinkNumber$Maker" 50 4 2 .int := ⟨_, _, _, rfl, Nat.le_of_ble_eq_true rfl, zw_Maker_50, rfl, by decide +kernel⟩
theorem zw_Maker_63 : Cond.fieldLink "ThinkNumber$Maker" 63 "ThinkNumber$Orders" "kinds" "[I" ∈ tb := tb_in (List.mem_append_left _ (List.mem_of_getElem? (i := 93) rfl)) rfl
theorem zf_Maker_63 : zlk "ThinkNumber$Maker" 63 4 0 := ⟨_, _, _, rfl, Nat.le_of_ble_eq_true rfl, zw_Maker_63⟩
theorem zw_Maker_74 : Cond.fieldLink "ThinkNumber$Maker" 74 "ThinkNumber$Value" "low" "J" ∈ tb := tb_in (List.mem_append_left _ (List.mem_of_getElem? (i := 210) rfl)) rfl
theorem zf_Maker_74 : zlk "ThinkNumber$Maker" 74 7 1 := ⟨_, _, _, rfl, Nat.le_of_ble_eq_true rfl, zw_Maker_74⟩
theorem zq_Maker_74 : zlkP "ThinkNumber$Maker" 74 7 1 .long := ⟨_, _, _, rfl, Nat.le_of_ble_eq_true rfl, zw_Maker_74, rfl, by decide +kernel⟩
theorem zw_Maker_77 : Cond.fieldLink "ThinkNumber$Maker" 77 "ThinkNumber$Value" "up" "J" ∈ tb := tb_in (List.mem_append_left _ (List.mem_of_getElem? (i := 205) rfl)) rfl
theorem zf_Maker_77 : zlk "ThinkNumber$Maker" 77 7 0 := ⟨_, _, _, rfl, Nat.le_of_ble_eq_true rfl, zw_Maker_77⟩
theorem zq_Maker_77 : zlkP "ThinkNumber$Maker" 77 7 0 .long := ⟨_, _, _, rfl, Nat.le_of_ble_eq_true rfl, zw_Maker_77, rfl, by decide +kernel⟩
theorem zw_Orders_9 : Cond.fieldLink "ThinkNumber$Orders" 9 "ThinkNumber$Orders" "kinds" "[I" ∈ tb := tb_in (List.mem_append_left _ (List.mem_of_getElem? (i := 90) rfl)) rfl
theorem zf_Orders_9 : zlk "ThinkNumber$Orders" 9 4 0 := ⟨_, _, _, rfl, Nat.le_of_ble_eq_true rfl, zw_Orders_9⟩
theorem zw_Orders_15 : Cond.fieldLink "ThinkNumber$Orders" 15 "ThinkNumber$Orders" "xs" "[I" ∈ tb := tb_in (List.mem_append_left _ (List.mem_of_getElem? (i := 96) rfl)) rfl
theorem zf_Orders_15 : zlk "ThinkNumber$Orders" 15 4 1 := ⟨_, _, _, rfl, Nat.le_of_ble_eq_true rfl, zw_Orders_15⟩
theorem zw_Orders_18 : Cond.fieldLink "ThinkNumber$Orders" 18 "ThinkNumber$Orders" "count" "I" ∈ tb := tb_in (List.mem_append_left _ (List.mem_of_getElem? (i := 100) rfl)) rfl
theorem zf_Orders_18 : zlk "ThinkNumber$Orders" 18 4 2 := ⟨_, _, _, rfl, Nat.le_of_ble_eq_true rfl, zw_Orders_18⟩
theorem zq_Orders_18 : zlkP "ThinkNumber$Orders" 18 4 2 .int := ⟨_, _, _, rfl, Nat.le_of_ble_eq_true rfl, zw_Orders_18, rfl, by decide +kernel⟩
theorem zw_Parting_9 : Cond.fieldLink "ThinkNumber$Parting" 9 "ThinkNumber$Parting" "ups" "[J" ∈ tb := tb_in (List.mem_append_right _ (List.mem_append_left _ (List.mem_of_getElem? (i := 21) rfl))) rfl
theorem zf_Parting_9 : zlk "ThinkNumber$Parting" 9 10 0 := ⟨_, _, _, rfl, Nat.le_of_ble_eq_true rfl, zw_Parting_9⟩
theorem zw_Parting_15 : Cond.fieldLink "ThinkNumber$Parting" 15 "ThinkNumber$Parting" "lows" "[J" ∈ tb := tb_in (List.mem_append_right _ (List.mem_append_left _ (List.mem_of_getElem? (i := 22) rfl))) rfl
theorem zf_Parting_15 : zlk "ThinkNumber$Parting" 15 10 1 := ⟨_, _, _, rfl, Nat.le_of_ble_eq_true rfl, zw_Parting_15⟩
theorem zw_Parting_18 : Cond.fieldLink "ThinkNumber$Parting" 18 "ThinkNumber$Parting" "group" "[I" ∈ tb := tb_in (List.mem_append_right _ (List.mem_append_left _ (List.mem_of_getElem? (i := 23) rfl))) rfl
theorem zf_Parting_18 : zlk "ThinkNumber$Parting" 18 10 2 := ⟨_, _, _, rfl, Nat.le_of_ble_eq_true rfl, zw_Parting_18⟩
theorem zw_Parting_22 : Cond.fieldLink "ThinkNumber$Parting" 22 "ThinkNumber$Parting" "finer" "[I" ∈ tb := tb_in (List.mem_append_right _ (List.mem_append_left _ (List.mem_of_getElem? (i := 24) rfl))) rfl
theorem zf_Parting_22 : zlk "ThinkNumber$Parting" 22 10 3 := ⟨_, _, _, rfl, Nat.le_of_ble_eq_true rfl, zw_Parting_22⟩
theorem zw_Parting_25 : Cond.fieldLink "ThinkNumber$Parting" 25 "ThinkNumber$Parting" "seats" "[I" ∈ tb := tb_in (List.mem_append_right _ (List.mem_append_left _ (List.mem_of_getElem? (i := 25) rfl))) rfl
theorem zf_Parting_25 : zlk "ThinkNumber$Parting" 25 10 4 := ⟨_, _, _, rfl, Nat.le_of_ble_eq_true rfl, zw_Parting_25⟩
theorem zw_Parting_34 : Cond.fieldLink "ThinkNumber$Parting" 34 "ThinkNumber$Parting" "members" "I" ∈ tb := tb_in (List.mem_append_right _ (List.mem_append_left _ (List.mem_of_getElem? (i := 26) rfl))) rfl
theorem zf_Parting_34 : zlk "ThinkNumber$Parting" 34 10 5 := ⟨_, _, _, rfl, Nat.le_of_ble_eq_true rfl, zw_Parting_34⟩
theorem zq_Parting_34 : zlkP "ThinkNumber$Parting" 34 10 5 .int := ⟨_, _, _, rfl, Nat.le_of_ble_eq_true rfl, zw_Parting_34, rfl, by decide +kernel⟩
theorem zw_Parting_46 : Cond.fieldLink "ThinkNumber$Parting" 46 "ThinkNumber$Table" "orders" "LThinkNumber$Orders;" ∈ tb := tb_in (List.mem_append_left _ (List.mem_of_getElem? (i := 114) rfl)) rfl
theorem zf_Parting_46 : zlk "ThinkNumber$Parting" 46 3 0 := ⟨_, _, _, rfl, Nat.le_of_ble_eq_true rfl, zw_Parting_46⟩
theorem zw_Parting_52 : Cond.fieldLink "ThinkNumber$Parting" 52 "ThinkNumber$Orders" "count" "I" ∈ tb := tb_in (List.mem_append_left _ (List.mem_of_getElem? (i := 101) rfl)) rfl
theorem zf_Parting_52 : zlk "ThinkNumber$Parting" 52 4 2 := ⟨_, _, _, rfl, Nat.le_of_ble_eq_true rfl, zw_Parting_52⟩
theorem zq_Parting_52 : zlkP "ThinkNumber$Parting" 52 4 2 .int := ⟨_, _, _, rfl, Nat.le_of_ble_eq_true rfl, zw_Parting_52, rfl, by decide +kernel⟩
theorem zw_Parting_71 : Cond.fieldLink "ThinkNumber$Parting" 71 "ThinkNumber$Orders" "kinds" "[I" ∈ tb := tb_in (List.mem_append_left _ (List.mem_of_getElem? (i := 92) rfl)) rfl
theorem zf_Parting_71 : zlk "ThinkNumber$Parting" 71 4 0 := ⟨_, _, _, rfl, Nat.le_of_ble_eq_true rfl, zw_Parting_71⟩
theorem zw_Parting_88 : Cond.fieldLink "ThinkNumber$Parting" 88 "ThinkNumber$Value" "up" "J" ∈ tb := tb_in (List.mem_append_left _ (List.mem_of_getElem? (i := 204) rfl)) rfl
theorem zf_Parting_88 : zlk "ThinkNumber$Parting" 88 7 0 := ⟨_, _, _, rfl, Nat.le_of_ble_eq_true rfl, zw_Parting_88⟩
theorem zq_Parting_88 : zlkP "ThinkNumber$Parting" 88 7 0 .long := ⟨_, _, _, rfl, Nat.le_of_ble_eq_true rfl, zw_Parting_88, rfl, by decide +kernel⟩
theorem zw_Parting_94 : Cond.fieldLink "ThinkNumber$Parting" 94 "ThinkNumber$Value" "low" "J" ∈ tb := tb_in (List.mem_append_left _ (List.mem_of_getElem? (i := 209) rfl)) rfl
theorem zf_Parting_94 : zlk "ThinkNumber$Parting" 94 7 1 := ⟨_, _, _, rfl, Nat.le_of_ble_eq_true rfl, zw_Parting_94⟩
theorem zq_Parting_94 : zlkP "ThinkNumber$Parting" 94 7 1 .long := ⟨_, _, _, rfl, Nat.le_of_ble_eq_true rfl, zw_Parting_94, rfl, by decide +kernel⟩
theorem zw_Reader_9 : Cond.fieldLink "ThinkNumber$Reader" 9 "ThinkNumber$Reader" "fault" "I" ∈ tb := tb_in (List.mem_append_left _ (List.mem_of_getElem? (i := 54) rfl)) rfl
theorem zf_Reader_9 : zlk "ThinkNumber$Reader" 9 2 1 := ⟨_, _, _, rfl, Nat.le_of_ble_eq_true rfl, zw_Reader_9⟩
theorem zq_Reader_9 : zlkP "ThinkNumber$Reader" 9 2 1 .int := ⟨_, _, _, rfl, Nat.le_of_ble_eq_true rfl, zw_Reader_9, rfl, by decide +kernel⟩
theorem zw_Reader_15 : Cond.fieldLink "ThinkNumber$Reader" 15 "ThinkNumber$Reader" "place" "I" ∈ tb := tb_in (List.mem_append_left _ (List.mem_of_getElem? (i := 56) rfl)) rfl
theorem zf_Reader_15 : zlk "ThinkNumber$Reader" 15 2 2 := ⟨_, _, _, rfl, Nat.le_of_ble_eq_true rfl, zw_Reader_15⟩
theorem zq_Reader_15 : zlkP "ThinkNumber$Reader" 15 2 2 .int := ⟨_, _, _, rfl, Nat.le_of_ble_eq_true rfl, zw_Reader_15, rfl, by decide +kernel⟩
theorem zw_Reader_18 : Cond.fieldLink "ThinkNumber$Reader" 18 "ThinkNumber$Reader" "tape" "LThinkNumber$Tape;" ∈ tb := tb_in (List.mem_append_left _ (List.mem_of_getElem? (i := 53) rfl)) rfl
theorem zf_Reader_18 : zlk "ThinkNumber$Reader" 18 2 0 := ⟨_, _, _, rfl, Nat.le_of_ble_eq_true rfl, zw_Reader_18⟩
theorem zw_Reader_22 : Cond.fieldLink "ThinkNumber$Reader" 22 "ThinkNumber$Reader" "behind" "I" ∈ tb := tb_in (List.mem_append_left _ (List.mem_of_getElem? (i := 60) rfl)) rfl
theorem zf_Reader_22 : zlk "ThinkNumber$Reader" 22 2 5 := ⟨_, _, _, rfl, Nat.le_of_ble_eq_true rfl, zw_Reader_22⟩
theorem zq_Reader_22 : zlkP "ThinkNumber$Reader" 22 2 5 .int := ⟨_, _, _, rfl, Nat.le_of_ble_eq_true rfl, zw_Reader_22, rfl, by decide +kernel⟩
theorem zw_Reader_33 : Cond.fieldLink "ThinkNumber$Reader" 33 "ThinkNumber$Reader" "sort" "I" ∈ tb := tb_in (List.mem_append_left _ (List.mem_of_getElem? (i := 58) rfl)) rfl
theorem zf_Reader_33 : zlk "ThinkNumber$Reader" 33 2 3 := ⟨_, _, _, rfl, Nat.le_of_ble_eq_true rfl, zw_Reader_33⟩
theorem zq_Reader_33 : zlkP "ThinkNumber$Reader" 33 2 3 .int := ⟨_, _, _, rfl, Nat.le_of_ble_eq_true rfl, zw_Reader_33, rfl, by decide +kernel⟩
theorem zw_Reader_59 : Cond.fieldLink "ThinkNumber$Reader" 59 "ThinkNumber$Table" "orders" "LThinkNumber$Orders;" ∈ tb := tb_in (List.mem_append_left _ (List.mem_of_getElem? (i := 116) rfl)) rfl
theorem zf_Reader_59 : zlk "ThinkNumber$Reader" 59 3 0 := ⟨_, _, _, rfl, Nat.le_of_ble_eq_true rfl, zw_Reader_59⟩
theorem zw_Reader_63 : Cond.fieldLink "ThinkNumber$Reader" 63 "ThinkNumber$Reader" "x" "I" ∈ tb := tb_in (List.mem_append_left _ (List.mem_of_getElem? (i := 61) rfl)) rfl
theorem zf_Reader_63 : zlk "ThinkNumber$Reader" 63 2 6 := ⟨_, _, _, rfl, Nat.le_of_ble_eq_true rfl, zw_Reader_63⟩
theorem zq_Reader_63 : zlkP "ThinkNumber$Reader" 63 2 6 .int := ⟨_, _, _, rfl, Nat.le_of_ble_eq_true rfl, zw_Reader_63, rfl, by decide +kernel⟩
theorem zw_Reader_89 : Cond.fieldLink "ThinkNumber$Reader" 89 "ThinkNumber$Table" "first" "[I" ∈ tb := tb_in (List.mem_append_left _ (List.mem_of_getElem? (i := 119) rfl)) rfl
theorem zf_Reader_89 : zlk "ThinkNumber$Reader" 89 3 1 := ⟨_, _, _, rfl, Nat.le_of_ble_eq_true rfl, zw_Reader_89⟩
theorem zw_Reader_93 : Cond.fieldLink "ThinkNumber$Reader" 93 "ThinkNumber$Table" "last" "[I" ∈ tb := tb_in (List.mem_append_left _ (List.mem_of_getElem? (i := 122) rfl)) rfl
theorem zf_Reader_93 : zlk "ThinkNumber$Reader" 93 3 2 := ⟨_, _, _, rfl, Nat.le_of_ble_eq_true rfl, zw_Reader_93⟩
theorem zw_Reader_105 : Cond.fieldLink "ThinkNumber$Reader" 105 "ThinkNumber$Reader" "start" "I" ∈ tb := tb_in (List.mem_append_left _ (List.mem_of_getElem? (i := 59) rfl)) rfl
theorem zf_Reader_105 : zlk "ThinkNumber$Reader" 105 2 4 := ⟨_, _, _, rfl, Nat.le_of_ble_eq_true rfl, zw_Reader_105⟩
theorem zq_Reader_105 : zlkP "ThinkNumber$Reader" 105 2 4 .int := ⟨_, _, _, rfl, Nat.le_of_ble_eq_true rfl, zw_Reader_105, rfl, by decide +kernel⟩
theorem zw_Reader_108 : Cond.fieldLink "ThinkNumber$Reader" 108 "ThinkNumber$Tape" "length" "I" ∈ tb := tb_in (List.mem_append_left _ (List.mem_of_getElem? (i := 40) rfl)) rfl
theorem zf_Reader_108 : zlk "ThinkNumber$Reader" 108 1 1 := ⟨_, _, _, rfl, Nat.le_of_ble_eq_true rfl, zw_Reader_108⟩
theorem zq_Reader_108 : zlkP "ThinkNumber$Reader" 108 1 1 .int := ⟨_, _, _, rfl, Nat.le_of_ble_eq_true rfl, zw_Reader_108, rfl, by decide +kernel⟩
theorem zw_Reader_113 : Cond.fieldLink "ThinkNumber$Reader" 113 "ThinkNumber$Tape" "bytes" "[B" ∈ tb := tb_in (List.mem_append_left _ (List.mem_of_getElem? (i := 37) rfl)) rfl
theorem zf_Reader_113 : zlk "ThinkNumber$Reader" 113 1 0 := ⟨_, _, _, rfl, Nat.le_of_ble_eq_true rfl, zw_Reader_113⟩
theorem zw_State_9 : Cond.fieldLink "ThinkNumber$State" 9 "ThinkNumber$State" "thought" "[I" ∈ tb := tb_in (List.mem_append_left _ (List.mem_of_getElem? (i := 161) rfl)) rfl
theorem zf_State_9 : zlk "ThinkNumber$State" 9 5 1 := ⟨_, _, _, rfl, Nat.le_of_ble_eq_true rfl, zw_State_9⟩
theorem zw_State_20 : Cond.fieldLink "ThinkNumber$State" 20 "ThinkNumber$State" "claims" "LThinkNumber$Values;" ∈ tb := tb_in (List.mem_append_left _ (List.mem_of_getElem? (i := 163) rfl)) rfl
theorem zf_State_20 : zlk "ThinkNumber$State" 20 5 2 := ⟨_, _, _, rfl, Nat.le_of_ble_eq_true rfl, zw_State_20⟩
theorem zw_State_24 : Cond.fieldLink "ThinkNumber$State" 24 "ThinkNumber$State" "heard" "LThinkNumber$Values;" ∈ tb := tb_in (List.mem_append_left _ (List.mem_of_getElem? (i := 165) rfl)) rfl
theorem zf_State_24 : zlk "ThinkNumber$State" 24 5 3 := ⟨_, _, _, rfl, Nat.le_of_ble_eq_true rfl, zw_State_24⟩
theorem zw_State_30 : Cond.fieldLink "ThinkNumber$State" 30 "ThinkNumber$State" "kit" "LThinkNumber$Orders;" ∈ tb := tb_in (List.mem_append_left _ (List.mem_of_getElem? (i := 167) rfl)) rfl
theorem zf_State_30 : zlk "ThinkNumber$State" 30 5 4 := ⟨_, _, _, rfl, Nat.le_of_ble_eq_true rfl, zw_State_30⟩
theorem zw_State_34 : Cond.fieldLink "ThinkNumber$State" 34 "ThinkNumber$State" "asks" "[I" ∈ tb := tb_in (List.mem_append_left _ (List.mem_of_getElem? (i := 169) rfl)) rfl
theorem zf_State_34 : zlk "ThinkNumber$State" 34 5 5 := ⟨_, _, _, rfl, Nat.le_of_ble_eq_true rfl, zw_State_34⟩
theorem zw_State_37 : Cond.fieldLink "ThinkNumber$State" 37 "ThinkNumber$State" "playedTable" "I" ∈ tb := tb_in (List.mem_append_left _ (List.mem_of_getElem? (i := 173) rfl)) rfl
theorem zf_State_37 : zlk "ThinkNumber$State" 37 5 7 := ⟨_, _, _, rfl, Nat.le_of_ble_eq_true rfl, zw_State_37⟩
theorem zq_State_37 : zlkP "ThinkNumber$State" 37 5 7 .int := ⟨_, _, _, rfl, Nat.le_of_ble_eq_true rfl, zw_State_37, rfl, by decide +kernel⟩
theorem zw_State_41 : Cond.fieldLink "ThinkNumber$State" 41 "ThinkNumber$State" "trail" "LThinkNumber$Values;" ∈ tb := tb_in (List.mem_append_left _ (List.mem_of_getElem? (i := 175) rfl)) rfl
theorem zf_State_41 : zlk "ThinkNumber$State" 41 5 8 := ⟨_, _, _, rfl, Nat.le_of_ble_eq_true rfl, zw_State_41⟩
theorem zw_State_44 : Cond.fieldLink "ThinkNumber$State" 44 "ThinkNumber$Values" "count" "I" ∈ tb := tb_in (List.mem_append_left _ (List.mem_of_getElem? (i := 145) rfl)) rfl
theorem zf_State_44 : zlk "ThinkNumber$State" 44 6 2 := ⟨_, _, _, rfl, Nat.le_of_ble_eq_true rfl, zw_State_44⟩
theorem zq_State_44 : zlkP "ThinkNumber$State" 44 6 2 .int := ⟨_, _, _, rfl, Nat.le_of_ble_eq_true rfl, zw_State_44, rfl, by decide +kernel⟩
theorem zw_State_53 : Cond.fieldLink "ThinkNumber$State" 53 "ThinkNumber$State" "tables" "I" ∈ tb := tb_in (List.mem_append_left _ (List.mem_of_getElem? (i := 159) rfl)) rfl
theorem zf_State_53 : zlk "ThinkNumber$State" 53 5 0 := ⟨_, _, _, rfl, Nat.le_of_ble_eq_true rfl, zw_State_53⟩
theorem zq_State_53 : zlkP "ThinkNumber$State" 53 5 0 .int := ⟨_, _, _, rfl, Nat.le_of_ble_eq_true rfl, zw_State_53, rfl, by decide +kernel⟩
theorem zw_State_69 : Cond.fieldLink "ThinkNumber$State" 69 "ThinkNumber$State" "askCount" "I" ∈ tb := tb_in (List.mem_append_left _ (List.mem_of_getElem? (i := 171) rfl)) rfl
theorem zf_State_69 : zlk "ThinkNumber$State" 69 5 6 := ⟨_, _, _, rfl, Nat.le_of_ble_eq_true rfl, zw_State_69⟩
theorem zq_State_69 : zlkP "ThinkNumber$State" 69 5 6 .int := ⟨_, _, _, rfl, Nat.le_of_ble_eq_true rfl, zw_State_69, rfl, by decide +kernel⟩
theorem zw_Sum_9 : Cond.fieldLink "ThinkNumber$Sum" 9 "ThinkNumber$Sum" "parts" "[J" ∈ tb := tb_in (List.mem_append_right _ (List.mem_append_left _ (List.mem_of_getElem? (i := 6) rfl))) rfl
theorem zf_Sum_9 : zlk "ThinkNumber$Sum" 9 9 0 := ⟨_, _, _, rfl, Nat.le_of_ble_eq_true rfl, zw_Sum_9⟩
theorem zw_Sum_27 : Cond.fieldLink "ThinkNumber$Sum" 27 "ThinkNumber$Sum" "low" "J" ∈ tb := tb_in (List.mem_append_right _ (List.mem_append_left _ (List.mem_of_getElem? (i := 8) rfl))) rfl
theorem zf_Sum_27 : zlk "ThinkNumber$Sum" 27 9 1 := ⟨_, _, _, rfl, Nat.le_of_ble_eq_true rfl, zw_Sum_27⟩
theorem zq_Sum_27 : zlkP "ThinkNumber$Sum" 27 9 1 .long := ⟨_, _, _, rfl, Nat.le_of_ble_eq_true rfl, zw_Sum_27, rfl, by decide +kernel⟩
theorem zw_Sum_31 : Cond.fieldLink "ThinkNumber$Sum" 31 "ThinkNumber$Table" "orders" "LThinkNumber$Orders;" ∈ tb := tb_in (List.mem_append_left _ (List.mem_of_getElem? (i := 115) rfl)) rfl
theorem zf_Sum_31 : zlk "ThinkNumber$Sum" 31 3 0 := ⟨_, _, _, rfl, Nat.le_of_ble_eq_true rfl, zw_Sum_31⟩
theorem zw_Sum_35 : Cond.fieldLink "ThinkNumber$Sum" 35 "ThinkNumber$Orders" "count" "I" ∈ tb := tb_in (List.mem_append_left _ (List.mem_of_getElem? (i := 102) rfl)) rfl
theorem zf_Sum_35 : zlk "ThinkNumber$Sum" 35 4 2 := ⟨_, _, _, rfl, Nat.le_of_ble_eq_true rfl, zw_Sum_35⟩
theorem zq_Sum_35 : zlkP "ThinkNumber$Sum" 35 4 2 .int := ⟨_, _, _, rfl, Nat.le_of_ble_eq_true rfl, zw_Sum_35, rfl, by decide +kernel⟩
theorem zw_Sum_41 : Cond.fieldLink "ThinkNumber$Sum" 41 "ThinkNumber$Orders" "kinds" "[I" ∈ tb := tb_in (List.mem_append_left _ (List.mem_of_getElem? (i := 91) rfl)) rfl
theorem zf_Sum_41 : zlk "ThinkNumber$Sum" 41 4 0 := ⟨_, _, _, rfl, Nat.le_of_ble_eq_true rfl, zw_Sum_41⟩
theorem zw_Sum_45 : Cond.fieldLink "ThinkNumber$Sum" 45 "ThinkNumber$Orders" "xs" "[I" ∈ tb := tb_in (List.mem_append_left _ (List.mem_of_getElem? (i := 97) rfl)) rfl
theorem zf_Sum_45 : zlk "ThinkNumber$Sum" 45 4 1 := ⟨_, _, _, rfl, Nat.le_of_ble_eq_true rfl, zw_Sum_45⟩
theorem zw_Table_14 : Cond.fieldLink "ThinkNumber$Table" 14 "ThinkNumber$Table" "orders" "LThinkNumber$Orders;" ∈ tb := tb_in (List.mem_append_left _ (List.mem_of_getElem? (i := 113) rfl)) rfl
theorem zf_Table_14 : zlk "ThinkNumber$Table" 14 3 0 := ⟨_, _, _, rfl, Nat.le_of_ble_eq_true rfl, zw_Table_14⟩
theorem zw_Table_20 : Cond.fieldLink "ThinkNumber$Table" 20 "ThinkNumber$Table" "first" "[I" ∈ tb := tb_in (List.mem_append_left _ (List.mem_of_getElem? (i := 118) rfl)) rfl
theorem zf_Table_20 : zlk "ThinkNumber$Table" 20 3 1 := ⟨_, _, _, rfl, Nat.le_of_ble_eq_true rfl, zw_Table_20⟩
theorem zw_Table_24 : Cond.fieldLink "ThinkNumber$Table" 24 "ThinkNumber$Table" "last" "[I" ∈ tb := tb_in (List.mem_append_left _ (List.mem_of_getElem? (i := 121) rfl)) rfl
theorem zf_Table_24 : zlk "ThinkNumber$Table" 24 3 2 := ⟨_, _, _, rfl, Nat.le_of_ble_eq_true rfl, zw_Table_24⟩
theorem zw_Table_27 : Cond.fieldLink "ThinkNumber$Table" 27 "ThinkNumber$Orders" "count" "I" ∈ tb := tb_in (List.mem_append_left _ (List.mem_of_getElem? (i := 99) rfl)) rfl
theorem zf_Table_27 : zlk "ThinkNumber$Table" 27 4 2 := ⟨_, _, _, rfl, Nat.le_of_ble_eq_true rfl, zw_Table_27⟩
theorem zq_Table_27 : zlkP "ThinkNumber$Table" 27 4 2 .int := ⟨_, _, _, rfl, Nat.le_of_ble_eq_true rfl, zw_Table_27, rfl, by decide +kernel⟩
theorem zw_Table_60 : Cond.fieldLink "ThinkNumber$Table" 60 "ThinkNumber$Orders" "kinds" "[I" ∈ tb := tb_in (List.mem_append_left _ (List.mem_of_getElem? (i := 94) rfl)) rfl
theorem zf_Table_60 : zlk "ThinkNumber$Table" 60 4 0 := ⟨_, _, _, rfl, Nat.le_of_ble_eq_true rfl, zw_Table_60⟩
theorem zw_Table_81 : Cond.fieldLink "ThinkNumber$Table" 81 "ThinkNumber$Values" "count" "I" ∈ tb := tb_in (List.mem_append_left _ (List.mem_of_getElem? (i := 147) rfl)) rfl
theorem zf_Table_81 : zlk "ThinkNumber$Table" 81 6 2 := ⟨_, _, _, rfl, Nat.le_of_ble_eq_true rfl, zw_Table_81⟩
theorem zq_Table_81 : zlkP "ThinkNumber$Table" 81 6 2 .int := ⟨_, _, _, rfl, Nat.le_of_ble_eq_true rfl, zw_Table_81, rfl, by decide +kernel⟩
theorem zw_Tally_9 : Cond.fieldLink "ThinkNumber$Tally" 9 "ThinkNumber$Tally" "seen" "[J" ∈ tb := tb_in (List.mem_append_left _ (List.mem_of_getElem? (i := 223) rfl)) rfl
theorem zf_Tally_9 : zlk "ThinkNumber$Tally" 9 8 0 := ⟨_, _, _, rfl, Nat.le_of_ble_eq_true rfl, zw_Tally_9⟩
theorem zw_Tally_21 : Cond.fieldLink "ThinkNumber$Tally" 21 "ThinkNumber$Tally" "count" "I" ∈ tb := tb_in (List.mem_append_left _ (List.mem_of_getElem? (i := 224) rfl)) rfl
theorem zf_Tally_21 : zlk "ThinkNumber$Tally" 21 8 1 := ⟨_, _, _, rfl, Nat.le_of_ble_eq_true rfl, zw_Tally_21⟩
theorem zq_Tally_21 : zlkP "ThinkNumber$Tally" 21 8 1 .int := ⟨_, _, _, rfl, Nat.le_of_ble_eq_true rfl, zw_Tally_21, rfl, by decide +kernel⟩
theorem zw_Tally_25 : Cond.fieldLink "ThinkNumber$Tally" 25 "ThinkNumber$Tally" "unlikeOnes" "I" ∈ tb := tb_in (List.mem_append_left _ (List.mem_of_getElem? (i := 228) rfl)) rfl
theorem zf_Tally_25 : zlk "ThinkNumber$Tally" 25 8 4 := ⟨_, _, _, rfl, Nat.le_of_ble_eq_true rfl, zw_Tally_25⟩
theorem zq_Tally_25 : zlkP "ThinkNumber$Tally" 25 8 4 .int := ⟨_, _, _, rfl, Nat.le_of_ble_eq_true rfl, zw_Tally_25, rfl, by decide +kernel⟩
theorem zw_Tally_32 : Cond.fieldLink "ThinkNumber$Tally" 32 "ThinkNumber$Tally" "least" "I" ∈ tb := tb_in (List.mem_append_left _ (List.mem_of_getElem? (i := 226) rfl)) rfl
theorem zf_Tally_32 : zlk "ThinkNumber$Tally" 32 8 2 := ⟨_, _, _, rfl, Nat.le_of_ble_eq_true rfl, zw_Tally_32⟩
theorem zq_Tally_32 : zlkP "ThinkNumber$Tally" 32 8 2 .int := ⟨_, _, _, rfl, Nat.le_of_ble_eq_true rfl, zw_Tally_32, rfl, by decide +kernel⟩
theorem zw_Tally_41 : Cond.fieldLink "ThinkNumber$Tally" 41 "ThinkNumber$Tally" "greatest" "I" ∈ tb := tb_in (List.mem_append_left _ (List.mem_of_getElem? (i := 227) rfl)) rfl
theorem zf_Tally_41 : zlk "ThinkNumber$Tally" 41 8 3 := ⟨_, _, _, rfl, Nat.le_of_ble_eq_true rfl, zw_Tally_41⟩
theorem zq_Tally_41 : zlkP "ThinkNumber$Tally" 41 8 3 .int := ⟨_, _, _, rfl, Nat.le_of_ble_eq_true rfl, zw_Tally_41, rfl, by decide +kernel⟩
theorem zw_Tape_11 : Cond.fieldLink "ThinkNumber$Tape" 11 "ThinkNumber$Tape" "bytes" "[B" ∈ tb := tb_in (List.mem_append_left _ (List.mem_of_getElem? (i := 36) rfl)) rfl
theorem zf_Tape_11 : zlk "ThinkNumber$Tape" 11 1 0 := ⟨_, _, _, rfl, Nat.le_of_ble_eq_true rfl, zw_Tape_11⟩
theorem zw_Tape_15 : Cond.fieldLink "ThinkNumber$Tape" 15 "ThinkNumber$Tape" "length" "I" ∈ tb := tb_in (List.mem_append_left _ (List.mem_of_getElem? (i := 38) rfl)) rfl
theorem zf_Tape_15 : zlk "ThinkNumber$Tape" 15 1 1 := ⟨_, _, _, rfl, Nat.le_of_ble_eq_true rfl, zw_Tape_15⟩
theorem zq_Tape_15 : zlkP "ThinkNumber$Tape" 15 1 1 .int := ⟨_, _, _, rfl, Nat.le_of_ble_eq_true rfl, zw_Tape_15, rfl, by decide +kernel⟩
theorem zw_Value_9 : Cond.fieldLink "ThinkNumber$Value" 9 "ThinkNumber$Value" "low" "J" ∈ tb := tb_in (List.mem_append_left _ (List.mem_of_getElem? (i := 207) rfl)) rfl
theorem zf_Value_9 : zlk "ThinkNumber$Value" 9 7 1 := ⟨_, _, _, rfl, Nat.le_of_ble_eq_true rfl, zw_Value_9⟩
theorem zq_Value_9 : zlkP "ThinkNumber$Value" 9 7 1 .long := ⟨_, _, _, rfl, Nat.le_of_ble_eq_true rfl, zw_Value_9, rfl, by decide +kernel⟩
theorem zw_Value_15 : Cond.fieldLink "ThinkNumber$Value" 15 "ThinkNumber$Value" "up" "J" ∈ tb := tb_in (List.mem_append_left _ (List.mem_of_getElem? (i := 202) rfl)) rfl
theorem zf_Value_15 : zlk "ThinkNumber$Value" 15 7 0 := ⟨_, _, _, rfl, Nat.le_of_ble_eq_true rfl, zw_Value_15⟩
theorem zq_Value_15 : zlkP "ThinkNumber$Value" 15 7 0 .long := ⟨_, _, _, rfl, Nat.le_of_ble_eq_true rfl, zw_Value_15, rfl, by decide +kernel⟩
theorem zw_Values_9 : Cond.fieldLink "ThinkNumber$Values" 9 "ThinkNumber$Values" "ups" "[J" ∈ tb := tb_in (List.mem_append_left _ (List.mem_of_getElem? (i := 143) rfl)) rfl
theorem zf_Values_9 : zlk "ThinkNumber$Values" 9 6 0 := ⟨_, _, _, rfl, Nat.le_of_ble_eq_true rfl, zw_Values_9⟩
theorem zw_Values_15 : Cond.fieldLink "ThinkNumber$Values" 15 "ThinkNumber$Values" "lows" "[J" ∈ tb := tb_in (List.mem_append_left _ (List.mem_of_getElem? (i := 144) rfl)) rfl
theorem zf_Values_15 : zlk "ThinkNumber$Values" 15 6 1 := ⟨_, _, _, rfl, Nat.le_of_ble_eq_true rfl, zw_Values_15⟩
theorem zw_Values_18 : Cond.fieldLink "ThinkNumber$Values" 18 "ThinkNumber$Values" "count" "I" ∈ tb := tb_in (List.mem_append_left _ (List.mem_of_getElem? (i := 146) rfl)) rfl
theorem zf_Values_18 : zlk "ThinkNumber$Values" 18 6 2 := ⟨_, _, _, rfl, Nat.le_of_ble_eq_true rfl, zw_Values_18⟩
theorem zq_Values_18 : zlkP "ThinkNumber$Values" 18 6 2 .int := ⟨_, _, _, rfl, Nat.le_of_ble_eq_true rfl, zw_Values_18, rfl, by decide +kernel⟩
theorem zw_Values_36 : Cond.fieldLink "ThinkNumber$Values" 36 "ThinkNumber$Value" "up" "J" ∈ tb := tb_in (List.mem_append_left _ (List.mem_of_getElem? (i := 203) rfl)) rfl
theorem zf_Values_36 : zlk "ThinkNumber$Values" 36 7 0 := ⟨_, _, _, rfl, Nat.le_of_ble_eq_true rfl, zw_Values_36⟩
theorem zq_Values_36 : zlkP "ThinkNumber$Values" 36 7 0 .long := ⟨_, _, _, rfl, Nat.le_of_ble_eq_true rfl, zw_Values_36, rfl, by decide +kernel⟩
theorem zw_Values_40 : Cond.fieldLink "ThinkNumber$Values" 40 "ThinkNumber$Value" "low" "J" ∈ tb := tb_in (List.mem_append_left _ (List.mem_of_getElem? (i := 208) rfl)) rfl
theorem zf_Values_40 : zlk "ThinkNumber$Values" 40 7 1 := ⟨_, _, _, rfl, Nat.le_of_ble_eq_true rfl, zw_Values_40⟩
theorem zq_Values_40 : zlkP "ThinkNumber$Values" 40 7 1 .long := ⟨_, _, _, rfl, Nat.le_of_ble_eq_true rfl, zw_Values_40, rfl, by decide +kernel⟩
theorem zw_M_7 : Cond.fieldLink "ThinkNumberModel" 7 "ThinkNumberModel" "a" "[I" ∈ tb := tb_in (List.mem_append_right _ (List.mem_append_right _ (List.mem_append_right _ (List.mem_append_left _ (List.mem_of_getElem? (i := 225) rfl))))) rfl
theorem zf_M_7 : zlk "ThinkNumberModel" 7 12 0 := ⟨_, _, _, rfl, Nat.le_of_ble_eq_true rfl, zw_M_7⟩
theorem zw_M_13 : Cond.fieldLink "ThinkNumberModel" 13 "ThinkNumberModel" "image" "[I" ∈ tb := tb_in (List.mem_append_right _ (List.mem_append_right _ (List.mem_append_right _ (List.mem_append_left _ (List.mem_of_getElem? (i := 226) rfl))))) rfl
theorem zf_M_13 : zlk "ThinkNumberModel" 13 12 1 := ⟨_, _, _, rfl, Nat.le_of_ble_eq_true rfl, zw_M_13⟩
theorem zw_M_16 : Cond.fieldLink "ThinkNumberModel" 16 "ThinkNumberModel" "f" "[J" ∈ tb := tb_in (List.mem_append_right _ (List.mem_append_right _ (List.mem_append_right _ (List.mem_append_left _ (List.mem_of_getElem? (i := 227) rfl))))) rfl
theorem zf_M_16 : zlk "ThinkNumberModel" 16 12 2 := ⟨_, _, _, rfl, Nat.le_of_ble_eq_true rfl, zw_M_16⟩
theorem zw_M_20 : Cond.fieldLink "ThinkNumberModel" 20 "ThinkNumberModel" "imageF" "[J" ∈ tb := tb_in (List.mem_append_right _ (List.mem_append_right _ (List.mem_append_right _ (List.mem_append_left _ (List.mem_of_getElem? (i := 228) rfl))))) rfl
theorem zf_M_20 : zlk "ThinkNumberModel" 20 12 3 := ⟨_, _, _, rfl, Nat.le_of_ble_eq_true rfl, zw_M_20⟩
theorem zw_M_23 : Cond.fieldLink "ThinkNumberModel" 23 "ThinkNumberModel" "tables" "[I" ∈ tb := tb_in (List.mem_append_right _ (List.mem_append_right _ (List.mem_append_right _ (List.mem_append_left _ (List.mem_of_getElem? (i := 229) rfl))))) rfl
theorem zf_M_23 : zlk "ThinkNumberModel" 23 12 4 := ⟨_, _, _, rfl, Nat.le_of_ble_eq_true rfl, zw_M_23⟩
theorem zw_M_26 : Cond.fieldLink "ThinkNumberModel" 26 "ThinkNumberModel" "tape" "[I" ∈ tb := tb_in (List.mem_append_right _ (List.mem_append_right _ (List.mem_append_right _ (List.mem_append_left _ (List.mem_of_getElem? (i := 230) rfl))))) rfl
theorem zf_M_26 : zlk "ThinkNumberModel" 26 12 5 := ⟨_, _, _, rfl, Nat.le_of_ble_eq_true rfl, zw_M_26⟩
theorem zw_M_29 : Cond.fieldLink "ThinkNumberModel" 29 "ThinkNumberModel" "fault" "I" ∈ tb := tb_in (List.mem_append_right _ (List.mem_append_right _ (List.mem_append_right _ (List.mem_append_left _ (List.mem_of_getElem? (i := 232) rfl))))) rfl
theorem zf_M_29 : zlk "ThinkNumberModel" 29 12 7 := ⟨_, _, _, rfl, Nat.le_of_ble_eq_true rfl, zw_M_29⟩
theorem zq_M_29 : zlkP "ThinkNumberModel" 29 12 7 .int := ⟨_, _, _, rfl, Nat.le_of_ble_eq_true rfl, zw_M_29, rfl, by decide +kernel⟩
theorem zw_M_33 : Cond.fieldLink "ThinkNumberModel" 33 "ThinkNumberModel" "faultPlace" "I" ∈ tb := tb_in (List.mem_append_right _ (List.mem_append_right _ (List.mem_append_right _ (List.mem_append_left _ (List.mem_of_getElem? (i := 233) rfl))))) rfl
theorem zf_M_33 : zlk "ThinkNumberModel" 33 12 8 := ⟨_, _, _, rfl, Nat.le_of_ble_eq_true rfl, zw_M_33⟩
theorem zq_M_33 : zlkP "ThinkNumberModel" 33 12 8 .int := ⟨_, _, _, rfl, Nat.le_of_ble_eq_true rfl, zw_M_33, rfl, by decide +kernel⟩
theorem zw_M_36 : Cond.fieldLink "ThinkNumberModel" 36 "ThinkNumberModel" "think" "[I" ∈ tb := tb_in (List.mem_append_right _ (List.mem_append_right _ (List.mem_append_right _ (List.mem_append_right _ (List.mem_append_left _ (List.mem_of_getElem? (i := 2) rfl)))))) rfl
theorem zf_M_36 : zlk "ThinkNumberModel" 36 12 17 := ⟨_, _, _, rfl, Nat.le_of_ble_eq_true rfl, zw_M_36⟩
theorem zw_M_39 : Cond.fieldLink "ThinkNumberModel" 39 "ThinkNumberModel" "form" "[J" ∈ tb := tb_in (List.mem_append_right _ (List.mem_append_right _ (List.mem_append_right _ (List.mem_append_right _ (List.mem_append_left _ (List.mem_of_getElem? (i := 3) rfl)))))) rfl
theorem zf_M_39 : zlk "ThinkNumberModel" 39 12 18 := ⟨_, _, _, rfl, Nat.le_of_ble_eq_true rfl, zw_M_39⟩
theorem zw_M_42 : Cond.fieldLink "ThinkNumberModel" 42 "ThinkNumberModel" "came" "[Z" ∈ tb := tb_in (List.mem_append_right _ (List.mem_append_right _ (List.mem_append_right _ (List.mem_append_right _ (List.mem_append_left _ (List.mem_of_getElem? (i := 4) rfl)))))) rfl
theorem zf_M_42 : zlk "ThinkNumberModel" 42 12 19 := ⟨_, _, _, rfl, Nat.le_of_ble_eq_true rfl, zw_M_42⟩
theorem zw_M_46 : Cond.fieldLink "ThinkNumberModel" 46 "ThinkNumberModel" "uppers" "[J" ∈ tb := tb_in (List.mem_append_right _ (List.mem_append_right _ (List.mem_append_right _ (List.mem_append_right _ (List.mem_append_left _ (List.mem_of_getElem? (i := 5) rfl)))))) rfl
theorem zf_M_46 : zlk "ThinkNumberModel" 46 12 20 := ⟨_, _, _, rfl, Nat.le_of_ble_eq_true rfl, zw_M_46⟩
theorem zw_M_49 : Cond.fieldLink "ThinkNumberModel" 49 "ThinkNumberModel" "lowers" "[J" ∈ tb := tb_in (List.mem_append_right _ (List.mem_append_right _ (List.mem_append_right _ (List.mem_append_right _ (List.mem_append_left _ (List.mem_of_getElem? (i := 6) rfl)))))) rfl
theorem zf_M_49 : zlk "ThinkNumberModel" 49 12 21 := ⟨_, _, _, rfl, Nat.le_of_ble_eq_true rfl, zw_M_49⟩
theorem zw_M_52 : Cond.fieldLink "ThinkNumberModel" 52 "ThinkNumberModel" "chain" "[I" ∈ tb := tb_in (List.mem_append_right _ (List.mem_append_right _ (List.mem_append_right _ (List.mem_append_right _ (List.mem_append_left _ (List.mem_of_getElem? (i := 7) rfl)))))) rfl
theorem zf_M_52 : zlk "ThinkNumberModel" 52 12 22 := ⟨_, _, _, rfl, Nat.le_of_ble_eq_true rfl, zw_M_52⟩
theorem zw_M_55 : Cond.fieldLink "ThinkNumberModel" 55 "ThinkNumberModel" "chains" "[I" ∈ tb := tb_in (List.mem_append_right _ (List.mem_append_right _ (List.mem_append_right _ (List.mem_append_right _ (List.mem_append_left _ (List.mem_of_getElem? (i := 8) rfl)))))) rfl
theorem zf_M_55 : zlk "ThinkNumberModel" 55 12 23 := ⟨_, _, _, rfl, Nat.le_of_ble_eq_true rfl, zw_M_55⟩
theorem zw_M_58 : Cond.fieldLink "ThinkNumberModel" 58 "ThinkNumberModel" "row" "[I" ∈ tb := tb_in (List.mem_append_right _ (List.mem_append_right _ (List.mem_append_right _ (List.mem_append_right _ (List.mem_append_left _ (List.mem_of_getElem? (i := 9) rfl)))))) rfl
theorem zf_M_58 : zlk "ThinkNumberModel" 58 12 24 := ⟨_, _, _, rfl, Nat.le_of_ble_eq_true rfl, zw_M_58⟩
theorem zw_M_61 : Cond.fieldLink "ThinkNumberModel" 61 "ThinkNumberModel" "takes" "[I" ∈ tb := tb_in (List.mem_append_right _ (List.mem_append_right _ (List.mem_append_right _ (List.mem_append_right _ (List.mem_append_left _ (List.mem_of_getElem? (i := 10) rfl)))))) rfl
theorem zf_M_61 : zlk "ThinkNumberModel" 61 12 25 := ⟨_, _, _, rfl, Nat.le_of_ble_eq_true rfl, zw_M_61⟩
theorem zw_M_76 : Cond.fieldLink "ThinkNumberModel" 76 "ThinkNumberModel" "taped" "I" ∈ tb := tb_in (List.mem_append_right _ (List.mem_append_right _ (List.mem_append_right _ (List.mem_append_left _ (List.mem_of_getElem? (i := 231) rfl))))) rfl
theorem zf_M_76 : zlk "ThinkNumberModel" 76 12 6 := ⟨_, _, _, rfl, Nat.le_of_ble_eq_true rfl, zw_M_76⟩
theorem zq_M_76 : zlkP "ThinkNumberModel" 76 12 6 .int := ⟨_, _, _, rfl, Nat.le_of_ble_eq_true rfl, zw_M_76, rfl, by decide +kernel⟩
theorem zw_M_83 : Cond.fieldLink "ThinkNumberModel" 83 "ThinkNumberModel" "at" "I" ∈ tb := tb_in (List.mem_append_right _ (List.mem_append_right _ (List.mem_append_right _ (List.mem_append_left _ (List.mem_of_getElem? (i := 234) rfl))))) rfl
theorem zf_M_83 : zlk "ThinkNumberModel" 83 12 9 := ⟨_, _, _, rfl, Nat.le_of_ble_eq_true rfl, zw_M_83⟩
theorem zq_M_83 : zlkP "ThinkNumberModel" 83 12 9 .int := ⟨_, _, _, rfl, Nat.le_of_ble_eq_true rfl, zw_M_83, rfl, by decide +kernel⟩
theorem zw_M_90 : Cond.fieldLink "ThinkNumberModel" 90 "ThinkNumberModel" "place" "I" ∈ tb := tb_in (List.mem_append_right _ (List.mem_append_right _ (List.mem_append_right _ (List.mem_append_left _ (List.mem_of_getElem? (i := 235) rfl))))) rfl
theorem zf_M_90 : zlk "ThinkNumberModel" 90 12 10 := ⟨_, _, _, rfl, Nat.le_of_ble_eq_true rfl, zw_M_90⟩
theorem zq_M_90 : zlkP "ThinkNumberModel" 90 12 10 .int := ⟨_, _, _, rfl, Nat.le_of_ble_eq_true rfl, zw_M_90, rfl, by decide +kernel⟩
theorem zw_M_93 : Cond.fieldLink "ThinkNumberModel" 93 "ThinkNumberModel" "token" "I" ∈ tb := tb_in (List.mem_append_right _ (List.mem_append_right _ (List.mem_append_right _ (List.mem_append_left _ (List.mem_of_getElem? (i := 236) rfl))))) rfl
theorem zf_M_93 : zlk "ThinkNumberModel" 93 12 11 := ⟨_, _, _, rfl, Nat.le_of_ble_eq_true rfl, zw_M_93⟩
theorem zq_M_93 : zlkP "ThinkNumberModel" 93 12 11 .int := ⟨_, _, _, rfl, Nat.le_of_ble_eq_true rfl, zw_M_93, rfl, by decide +kernel⟩
theorem zw_M_100 : Cond.fieldLink "ThinkNumberModel" 100 "ThinkNumberModel" "number" "I" ∈ tb := tb_in (List.mem_append_right _ (List.mem_append_right _ (List.mem_append_right _ (List.mem_append_left _ (List.mem_of_getElem? (i := 237) rfl))))) rfl
theorem zf_M_100 : zlk "ThinkNumberModel" 100 12 12 := ⟨_, _, _, rfl, Nat.le_of_ble_eq_true rfl, zw_M_100⟩
theorem zq_M_100 : zlkP "ThinkNumberModel" 100 12 12 .int := ⟨_, _, _, rfl, Nat.le_of_ble_eq_true rfl, zw_M_100, rfl, by decide +kernel⟩
theorem zw_M_107 : Cond.fieldLink "ThinkNumberModel" 107 "ThinkNumberModel" "word" "J" ∈ tb := tb_in (List.mem_append_right _ (List.mem_append_right _ (List.mem_append_right _ (List.mem_append_left _ (List.mem_of_getElem? (i := 239) rfl))))) rfl
theorem zf_M_107 : zlk "ThinkNumberModel" 107 12 14 := ⟨_, _, _, rfl, Nat.le_of_ble_eq_true rfl, zw_M_107⟩
theorem zq_M_107 : zlkP "ThinkNumberModel" 107 12 14 .long := ⟨_, _, _, rfl, Nat.le_of_ble_eq_true rfl, zw_M_107, rfl, by decide +kernel⟩
theorem zw_M_146 : Cond.fieldLink "ThinkNumberModel" 146 "ThinkNumberModel" "table0" "I" ∈ tb := tb_in (List.mem_append_right _ (List.mem_append_right _ (List.mem_append_right _ (List.mem_append_left _ (List.mem_of_getElem? (i := 238) rfl))))) rfl
theorem zf_M_146 : zlk "ThinkNumberModel" 146 12 13 := ⟨_, _, _, rfl, Nat.le_of_ble_eq_true rfl, zw_M_146⟩
theorem zq_M_146 : zlkP "ThinkNumberModel" 146 12 13 .int := ⟨_, _, _, rfl, Nat.le_of_ble_eq_true rfl, zw_M_146, rfl, by decide +kernel⟩
theorem zw_M_196 : Cond.fieldLink "ThinkNumberModel" 196 "ThinkNumberModel" "up" "J" ∈ tb := tb_in (List.mem_append_right _ (List.mem_append_right _ (List.mem_append_right _ (List.mem_append_right _ (List.mem_append_left _ (List.mem_of_getElem? (i := 0) rfl)))))) rfl
theorem zf_M_196 : zlk "ThinkNumberModel" 196 12 15 := ⟨_, _, _, rfl, Nat.le_of_ble_eq_true rfl, zw_M_196⟩
theorem zq_M_196 : zlkP "ThinkNumberModel" 196 12 15 .long := ⟨_, _, _, rfl, Nat.le_of_ble_eq_true rfl, zw_M_196, rfl, by decide +kernel⟩
theorem zw_M_199 : Cond.fieldLink "ThinkNumberModel" 199 "ThinkNumberModel" "low" "J" ∈ tb := tb_in (List.mem_append_right _ (List.mem_append_right _ (List.mem_append_right _ (List.mem_append_right _ (List.mem_append_left _ (List.mem_of_getElem? (i := 1) rfl)))))) rfl
theorem zf_M_199 : zlk "ThinkNumberModel" 199 12 16 := ⟨_, _, _, rfl, Nat.le_of_ble_eq_true rfl, zw_M_199⟩
theorem zq_M_199 : zlkP "ThinkNumberModel" 199 12 16 .long := ⟨_, _, _, rfl, Nat.le_of_ble_eq_true rfl, zw_M_199, rfl, by decide +kernel⟩
theorem zw_A_338 : Cond.fieldLink "ThinkNumber" 338 "ThinkNumber" "TENS" "[J" ∈ tb := tb_in (List.mem_append_right _ (List.mem_append_right _ (List.mem_append_left _ (List.mem_of_getElem? (i := 109) rfl)))) rfl
theorem zw_JStr_9 : Cond.fieldLink "java/lang/String" 9 "java/lang/String" "value" "[B" ∈ tb := tb_in (List.mem_append_right _ (List.mem_append_right _ (List.mem_append_right _ (List.mem_append_right _ (List.mem_append_right _ (List.mem_of_getElem? (i := 217) rfl)))))) rfl
theorem zw_JStr_15 : Cond.fieldLink "java/lang/String" 15 "java/lang/String" "coder" "B" ∈ tb := tb_in (List.mem_append_right _ (List.mem_append_right _ (List.mem_append_right _ (List.mem_append_right _ (List.mem_append_right _ (List.mem_of_getElem? (i := 218) rfl)))))) rfl
theorem zw_JStr_38 : Cond.fieldLink "java/lang/String" 38 "java/lang/String" "COMPACT_STRINGS" "Z" ∈ tb := tb_in (List.mem_append_right _ (List.mem_append_left _ (List.mem_of_getElem? (i := 189) rfl))) rfl
theorem zw_JStr_1053 : Cond.fieldLink "java/lang/String" 1053 "jdk/internal/util/Preconditions" "SIOOBE_FORMATTER" "Ljava/util/function/BiFunction;" ∈ tb := tb_in (List.mem_append_right _ (List.mem_append_left _ (List.mem_of_getElem? (i := 205) rfl))) rfl
theorem zw_Value_36 : ∃ host, Cond.fieldLinkNest "ThinkNumber$Value" 36 "ThinkNumber" "TENS" "[J" host ∈ znest := ⟨_, List.mem_filter.mpr ⟨List.mem_append_right _ (List.mem_append_right _ (List.mem_append_left _ (List.mem_of_getElem? (i := 104) rfl))), rfl⟩⟩
theorem zk_A_331 : Cond.constant "ThinkNumber" 331 (-1000000000) ∈ tb := tb_in (List.mem_append_right _ (List.mem_append_right _ (List.mem_append_left _ (List.mem_of_getElem? (i := 149) rfl)))) rfl
theorem zk_A_332 : Cond.constant "ThinkNumber" 332 (1000000000) ∈ tb := tb_in (List.mem_append_right _ (List.mem_append_right _ (List.mem_append_left _ (List.mem_of_getElem? (i := 150) rfl)))) rfl
theorem zk_A_333 : Cond.constant "ThinkNumber" 333 (1000000) ∈ tb := tb_in (List.mem_append_right _ (List.mem_append_right _ (List.mem_append_left _ (List.mem_of_getElem? (i := 151) rfl)))) rfl
theorem zk_M_103 : Cond.constant "ThinkNumberModel" 103 (99999) ∈ tb := tb_in (List.mem_append_right _ (List.mem_append_right _ (List.mem_append_right _ (List.mem_append_right _ (List.mem_append_left _ (List.mem_of_getElem? (i := 103) rfl)))))) rfl
theorem zk_M_241 : Cond.constant "ThinkNumberModel" 241 (-1000000000) ∈ tb := tb_in (List.mem_append_right _ (List.mem_append_right _ (List.mem_append_right _ (List.mem_append_right _ (List.mem_append_right _ (List.mem_of_getElem? (i := 15) rfl)))))) rfl
theorem zk_M_242 : Cond.constant "ThinkNumberModel" 242 (1000000000) ∈ tb := tb_in (List.mem_append_right _ (List.mem_append_right _ (List.mem_append_right _ (List.mem_append_right _ (List.mem_append_right _ (List.mem_of_getElem? (i := 16) rfl)))))) rfl
theorem zk_M_243 : Cond.constant "ThinkNumberModel" 243 (1000000) ∈ tb := tb_in (List.mem_append_right _ (List.mem_append_right _ (List.mem_append_right _ (List.mem_append_right _ (List.mem_append_right _ (List.mem_of_getElem? (i := 17) rfl)))))) rfl
theorem zk_JInt_265 : Cond.constant "java/lang/Integer" 265 (1431655765) ∈ tb := tb_in (List.mem_append_right _ (List.mem_append_right _ (List.mem_append_right _ (List.mem_append_left _ (List.mem_of_getElem? (i := 129) rfl))))) rfl
theorem zk_JInt_266 : Cond.constant "java/lang/Integer" 266 (858993459) ∈ tb := tb_in (List.mem_append_right _ (List.mem_append_right _ (List.mem_append_right _ (List.mem_append_left _ (List.mem_of_getElem? (i := 130) rfl))))) rfl
theorem zk_JInt_267 : Cond.constant "java/lang/Integer" 267 (252645135) ∈ tb := tb_in (List.mem_append_right _ (List.mem_append_right _ (List.mem_append_right _ (List.mem_append_left _ (List.mem_of_getElem? (i := 131) rfl))))) rfl
theorem zk_A_146 : Cond.constantLong "ThinkNumber" 146 (-10000000000000) ∈ tb := tb_in (List.mem_append_right _ (List.mem_append_right _ (List.mem_append_left _ (List.mem_of_getElem? (i := 64) rfl)))) rfl
theorem zk_A_193 : Cond.constantLong "ThinkNumber" 193 (20000) ∈ tb := tb_in (List.mem_append_right _ (List.mem_append_right _ (List.mem_append_left _ (List.mem_of_getElem? (i := 178) rfl)))) rfl
theorem zk_A_234 : Cond.constantLong "ThinkNumber" 234 (500) ∈ tb := tb_in (List.mem_append_right _ (List.mem_append_right _ (List.mem_append_right _ (List.mem_append_left _ (List.mem_of_getElem? (i := 38) rfl))))) rfl
theorem zk_Parting_112 : Cond.constantLong "ThinkNumber$Parting" 112 (31) ∈ tb := tb_in (List.mem_append_right _ (List.mem_append_right _ (List.mem_append_right _ (List.mem_append_left _ (List.mem_of_getElem? (i := 70) rfl))))) rfl
theorem zk_Parting_114 : Cond.constantLong "ThinkNumber$Parting" 114 (1000003) ∈ tb := tb_in (List.mem_append_right _ (List.mem_append_right _ (List.mem_append_right _ (List.mem_append_left _ (List.mem_of_getElem? (i := 71) rfl))))) rfl
theorem zk_Parting_116 : Cond.constantLong "ThinkNumber$Parting" 116 (1023) ∈ tb := tb_in (List.mem_append_right _ (List.mem_append_right _ (List.mem_append_right _ (List.mem_append_left _ (List.mem_of_getElem? (i := 72) rfl))))) rfl
theorem zk_Sum_72 : Cond.constantLong "ThinkNumber$Sum" 72 (1000000) ∈ tb := tb_in (List.mem_append_right _ (List.mem_append_right _ (List.mem_append_right _ (List.mem_append_left _ (List.mem_of_getElem? (i := 2) rfl))))) rfl
theorem zk_Sum_74 : Cond.constantLong "ThinkNumber$Sum" 74 (1000000000000) ∈ tb := tb_in (List.mem_append_right _ (List.mem_append_right _ (List.mem_append_right _ (List.mem_append_left _ (List.mem_of_getElem? (i := 3) rfl))))) rfl
theorem zk_Sum_76 : Cond.constantLong "ThinkNumber$Sum" 76 (-1000000000000) ∈ tb := tb_in (List.mem_append_right _ (List.mem_append_right _ (List.mem_append_right _ (List.mem_append_left _ (List.mem_of_getElem? (i := 4) rfl))))) rfl
theorem zk_Value_22 : Cond.constantLong "ThinkNumber$Value" 22 (1000000000000) ∈ tb := tb_in (List.mem_append_right _ (List.mem_append_right _ (List.mem_append_left _ (List.mem_of_getElem? (i := 100) rfl)))) rfl
theorem zk_Value_24 : Cond.constantLong "ThinkNumber$Value" 24 (-1000000000000) ∈ tb := tb_in (List.mem_append_right _ (List.mem_append_right _ (List.mem_append_left _ (List.mem_of_getElem? (i := 101) rfl)))) rfl
theorem zk_Value_26 : Cond.constantLong "ThinkNumber$Value" 26 (1000000) ∈ tb := tb_in (List.mem_append_right _ (List.mem_append_right _ (List.mem_append_left _ (List.mem_of_getElem? (i := 102) rfl)))) rfl
theorem zk_Value_55 : Cond.constantLong "ThinkNumber$Value" 55 (10) ∈ tb := tb_in (List.mem_append_right _ (List.mem_append_right _ (List.mem_append_left _ (List.mem_of_getElem? (i := 114) rfl)))) rfl
theorem zk_M_111 : Cond.constantLong "ThinkNumberModel" 111 (1152921504606846976) ∈ tb := tb_in (List.mem_append_right _ (List.mem_append_right _ (List.mem_append_right _ (List.mem_append_right _ (List.mem_append_left _ (List.mem_of_getElem? (i := 107) rfl)))))) rfl
theorem zk_M_129 : Cond.constantLong "ThinkNumberModel" 129 (25209) ∈ tb := tb_in (List.mem_append_right _ (List.mem_append_right _ (List.mem_append_right _ (List.mem_append_right _ (List.mem_append_left _ (List.mem_of_getElem? (i := 125) rfl)))))) rfl
theorem zk_M_135 : Cond.constantLong "ThinkNumberModel" 135 (97) ∈ tb := tb_in (List.mem_append_right _ (List.mem_append_right _ (List.mem_append_right _ (List.mem_append_right _ (List.mem_append_left _ (List.mem_of_getElem? (i := 137) rfl)))))) rfl
theorem zk_M_137 : Cond.constantLong "ThinkNumberModel" 137 (100) ∈ tb := tb_in (List.mem_append_right _ (List.mem_append_right _ (List.mem_append_right _ (List.mem_append_right _ (List.mem_append_left _ (List.mem_of_getElem? (i := 138) rfl)))))) rfl
theorem zk_M_152 : Cond.constantLong "ThinkNumberModel" 152 (29807) ∈ tb := tb_in (List.mem_append_right _ (List.mem_append_right _ (List.mem_append_right _ (List.mem_append_right _ (List.mem_append_left _ (List.mem_of_getElem? (i := 143) rfl)))))) rfl
theorem zk_M_190 : Cond.constantLong "ThinkNumberModel" 190 (1000000000000) ∈ tb := tb_in (List.mem_append_right _ (List.mem_append_right _ (List.mem_append_right _ (List.mem_append_right _ (List.mem_append_left _ (List.mem_of_getElem? (i := 216) rfl)))))) rfl
theorem zk_M_192 : Cond.constantLong "ThinkNumberModel" 192 (-1000000000000) ∈ tb := tb_in (List.mem_append_right _ (List.mem_append_right _ (List.mem_append_right _ (List.mem_append_right _ (List.mem_append_left _ (List.mem_of_getElem? (i := 217) rfl)))))) rfl
theorem zk_M_194 : Cond.constantLong "ThinkNumberModel" 194 (1000000) ∈ tb := tb_in (List.mem_append_right _ (List.mem_append_right _ (List.mem_append_right _ (List.mem_append_right _ (List.mem_append_left _ (List.mem_of_getElem? (i := 218) rfl)))))) rfl
theorem zk_M_202 : Cond.constantLong "ThinkNumberModel" 202 (10) ∈ tb := tb_in (List.mem_append_right _ (List.mem_append_right _ (List.mem_append_right _ (List.mem_append_right _ (List.mem_append_left _ (List.mem_of_getElem? (i := 226) rfl)))))) rfl
theorem zk_M_233 : Cond.constantLong "ThinkNumberModel" 233 (-10000000000000) ∈ tb := tb_in (List.mem_append_right _ (List.mem_append_right _ (List.mem_append_right _ (List.mem_append_right _ (List.mem_append_left _ (List.mem_of_getElem? (i := 192) rfl)))))) rfl
theorem zk_M_261 : Cond.constantLong "ThinkNumberModel" 261 (20000) ∈ tb := tb_in (List.mem_append_right _ (List.mem_append_right _ (List.mem_append_right _ (List.mem_append_right _ (List.mem_append_right _ (List.mem_of_getElem? (i := 46) rfl)))))) rfl
theorem zk_M_288 : Cond.constantLong "ThinkNumberModel" 288 (31) ∈ tb := tb_in (List.mem_append_right _ (List.mem_append_right _ (List.mem_append_right _ (List.mem_append_right _ (List.mem_append_right _ (List.mem_of_getElem? (i := 103) rfl)))))) rfl
theorem zk_M_290 : Cond.constantLong "ThinkNumberModel" 290 (7) ∈ tb := tb_in (List.mem_append_right _ (List.mem_append_right _ (List.mem_append_right _ (List.mem_append_right _ (List.mem_append_right _ (List.mem_of_getElem? (i := 104) rfl)))))) rfl
theorem zk_M_292 : Cond.constantLong "ThinkNumberModel" 292 (1000003) ∈ tb := tb_in (List.mem_append_right _ (List.mem_append_right _ (List.mem_append_right _ (List.mem_append_right _ (List.mem_append_right _ (List.mem_of_getElem? (i := 105) rfl)))))) rfl
theorem zk_M_294 : Cond.constantLong "ThinkNumberModel" 294 (1024) ∈ tb := tb_in (List.mem_append_right _ (List.mem_append_right _ (List.mem_append_right _ (List.mem_append_right _ (List.mem_append_right _ (List.mem_of_getElem? (i := 106) rfl)))))) rfl
theorem zy_A_think : Cond.code K_A_think.1 K_A_think.2.1 K_A_think.2.2.1 K_A_think.2.2.2 ∈ tb := tb_in (List.mem_append_right _ (List.mem_append_left _ (List.mem_of_getElem? (i := 113) rfl))) rfl
theorem zy_A_isNumber : Cond.code K_A_isNumber.1 K_A_isNumber.2.1 K_A_isNumber.2.2.1 K_A_isNumber.2.2.2 ∈ tb := tb_in (List.mem_append_right _ (List.mem_append_left _ (List.mem_of_getElem? (i := 116) rfl))) rfl
theorem zy_A_feed : Cond.code K_A_feed.1 K_A_feed.2.1 K_A_feed.2.2.1 K_A_feed.2.2.2 ∈ tb := tb_in (List.mem_append_right _ (List.mem_append_left _ (List.mem_of_getElem? (i := 120) rfl))) rfl
theorem zy_Tape_hasRoom : Cond.code K_Tape_hasRoom.1 K_Tape_hasRoom.2.1 K_Tape_hasRoom.2.2.1 K_Tape_hasRoom.2.2.2 ∈ tb := tb_in (List.mem_append_right _ (List.mem_append_left _ (List.mem_of_getElem? (i := 124) rfl))) rfl
theorem zy_Tape_append : Cond.code K_Tape_append.1 K_Tape_append.2.1 K_Tape_append.2.2.1 K_Tape_append.2.2.2 ∈ tb := tb_in (List.mem_append_right _ (List.mem_append_left _ (List.mem_of_getElem? (i := 128) rfl))) rfl
theorem zy_A_end : Cond.code K_A_end.1 K_A_end.2.1 K_A_end.2.2.1 K_A_end.2.2.2 ∈ tb := tb_in (List.mem_append_right _ (List.mem_append_left _ (List.mem_of_getElem? (i := 132) rfl))) rfl
theorem zy_A_table : Cond.code K_A_table.1 K_A_table.2.1 K_A_table.2.2.1 K_A_table.2.2.2 ∈ tb := tb_in (List.mem_append_right _ (List.mem_append_left _ (List.mem_of_getElem? (i := 136) rfl))) rfl
theorem zy_Reader_read : Cond.code K_Reader_read.1 K_Reader_read.2.1 K_Reader_read.2.2.1 K_Reader_read.2.2.2 ∈ tb := tb_in (List.mem_append_right _ (List.mem_append_left _ (List.mem_of_getElem? (i := 140) rfl))) rfl
theorem zy_Table_clear : Cond.code K_Table_clear.1 K_Table_clear.2.1 K_Table_clear.2.2.1 K_Table_clear.2.2.2 ∈ tb := tb_in (List.mem_append_right _ (List.mem_append_left _ (List.mem_of_getElem? (i := 144) rfl))) rfl
theorem zy_JArr_fillI : Cond.code K_JArr_fillI.1 K_JArr_fillI.2.1 K_JArr_fillI.2.2.1 K_JArr_fillI.2.2.2 ∈ tb := tb_in (List.mem_append_right _ (List.mem_append_left _ (List.mem_of_getElem? (i := 147) rfl))) rfl
theorem zy_Reader_advance : Cond.code K_Reader_advance.1 K_Reader_advance.2.1 K_Reader_advance.2.2.1 K_Reader_advance.2.2.2 ∈ tb := tb_in (List.mem_append_right _ (List.mem_append_left _ (List.mem_of_getElem? (i := 151) rfl))) rfl
theorem zy_Reader_sortOf : Cond.code K_Reader_sortOf.1 K_Reader_sortOf.2.1 K_Reader_sortOf.2.2.1 K_Reader_sortOf.2.2.2 ∈ tb := tb_in (List.mem_append_right _ (List.mem_append_left _ (List.mem_of_getElem? (i := 154) rfl))) rfl
theorem zy_Reader_readClause : Cond.code K_Reader_readClause.1 K_Reader_readClause.2.1 K_Reader_readClause.2.2.1 K_Reader_readClause.2.2.2 ∈ tb := tb_in (List.mem_append_right _ (List.mem_append_left _ (List.mem_of_getElem? (i := 158) rfl))) rfl
theorem zy_Reader_kindOfWord : Cond.code K_Reader_kindOfWord.1 K_Reader_kindOfWord.2.1 K_Reader_kindOfWord.2.2.1 K_Reader_kindOfWord.2.2.2 ∈ tb := tb_in (List.mem_append_right _ (List.mem_append_left _ (List.mem_of_getElem? (i := 162) rfl))) rfl
theorem zy_Reader_wordOf : Cond.code K_Reader_wordOf.1 K_Reader_wordOf.2.1 K_Reader_wordOf.2.2.1 K_Reader_wordOf.2.2.2 ∈ tb := tb_in (List.mem_append_right _ (List.mem_append_left _ (List.mem_of_getElem? (i := 165) rfl))) rfl
theorem zy_Reader_spells : Cond.code K_Reader_spells.1 K_Reader_spells.2.1 K_Reader_spells.2.2.1 K_Reader_spells.2.2.2 ∈ tb := tb_in (List.mem_append_right _ (List.mem_append_left _ (List.mem_of_getElem? (i := 180) rfl))) rfl
theorem zy_JStr_length : Cond.code K_JStr_length.1 K_JStr_length.2.1 K_JStr_length.2.2.1 K_JStr_length.2.2.2 ∈ tb := tb_in (List.mem_append_right _ (List.mem_append_left _ (List.mem_of_getElem? (i := 184) rfl))) rfl
theorem zy_JStr_coder : Cond.code K_JStr_coder.1 K_JStr_coder.2.1 K_JStr_coder.2.2.1 K_JStr_coder.2.2.2 ∈ tb := tb_in (List.mem_append_right _ (List.mem_append_left _ (List.mem_of_getElem? (i := 188) rfl))) rfl
theorem zy_JStr_charAt : Cond.code K_JStr_charAt.1 K_JStr_charAt.2.1 K_JStr_charAt.2.2.1 K_JStr_charAt.2.2.2 ∈ tb := tb_in (List.mem_append_right _ (List.mem_append_left _ (List.mem_of_getElem? (i := 194) rfl))) rfl
theorem zy_JStr_isLatin1 : Cond.code K_JStr_isLatin1.1 K_JStr_isLatin1.2.1 K_JStr_isLatin1.2.2.1 K_JStr_isLatin1.2.2.2 ∈ tb := tb_in (List.mem_append_right _ (List.mem_append_left _ (List.mem_of_getElem? (i := 198) rfl))) rfl
theorem zy_JLat_charAt : Cond.code K_JLat_charAt.1 K_JLat_charAt.2.1 K_JLat_charAt.2.2.1 K_JLat_charAt.2.2.2 ∈ tb := tb_in (List.mem_append_right _ (List.mem_append_left _ (List.mem_of_getElem? (i := 201) rfl))) rfl
theorem zy_JStr_checkIndex : Cond.code K_JStr_checkIndex.1 K_JStr_checkIndex.2.1 K_JStr_checkIndex.2.2.1 K_JStr_checkIndex.2.2.2 ∈ tb := tb_in (List.mem_append_right _ (List.mem_append_left _ (List.mem_of_getElem? (i := 204) rfl))) rfl
theorem zy_JPre_checkIndex : Cond.code K_JPre_checkIndex.1 K_JPre_checkIndex.2.1 K_JPre_checkIndex.2.2.1 K_JPre_checkIndex.2.2.2 ∈ tb := tb_in (List.mem_append_right _ (List.mem_append_left _ (List.mem_of_getElem? (i := 209) rfl))) rfl
theorem zy_Reader_refuse : Cond.code K_Reader_refuse.1 K_Reader_refuse.2.1 K_Reader_refuse.2.2.1 K_Reader_refuse.2.2.2 ∈ tb := tb_in (List.mem_append_right _ (List.mem_append_left _ (List.mem_of_getElem? (i := 232) rfl))) rfl
theorem zy_Reader_readHide : Cond.code K_Reader_readHide.1 K_Reader_readHide.2.1 K_Reader_readHide.2.2.1 K_Reader_readHide.2.2.2 ∈ tb := tb_in (List.mem_append_right _ (List.mem_append_left _ (List.mem_of_getElem? (i := 236) rfl))) rfl
theorem zy_Reader_letterOfWord : Cond.code K_Reader_letterOfWord.1 K_Reader_letterOfWord.2.1 K_Reader_letterOfWord.2.2.1 K_Reader_letterOfWord.2.2.2 ∈ tb := tb_in (List.mem_append_right _ (List.mem_append_right _ (List.mem_append_left _ (List.mem_of_getElem? (i := 0) rfl)))) rfl
theorem zy_A_isLetter : Cond.code K_A_isLetter.1 K_A_isLetter.2.1 K_A_isLetter.2.2.1 K_A_isLetter.2.2.2 ∈ tb := tb_in (List.mem_append_right _ (List.mem_append_right _ (List.mem_append_left _ (List.mem_of_getElem? (i := 3) rfl)))) rfl
theorem zy_Table_isHidden : Cond.code K_Table_isHidden.1 K_Table_isHidden.2.1 K_Table_isHidden.2.2.1 K_Table_isHidden.2.2.2 ∈ tb := tb_in (List.mem_append_right _ (List.mem_append_right _ (List.mem_append_left _ (List.mem_of_getElem? (i := 7) rfl)))) rfl
theorem zy_Reader_readWord : Cond.code K_Reader_readWord.1 K_Reader_readWord.2.1 K_Reader_readWord.2.2.1 K_Reader_readWord.2.2.2 ∈ tb := tb_in (List.mem_append_right _ (List.mem_append_right _ (List.mem_append_left _ (List.mem_of_getElem? (i := 13) rfl)))) rfl
theorem zy_Reader_readNumber : Cond.code K_Reader_readNumber.1 K_Reader_readNumber.2.1 K_Reader_readNumber.2.2.1 K_Reader_readNumber.2.2.2 ∈ tb := tb_in (List.mem_append_right _ (List.mem_append_right _ (List.mem_append_left _ (List.mem_of_getElem? (i := 17) rfl)))) rfl
theorem zy_Reader_numberOfDigits : Cond.code K_Reader_numberOfDigits.1 K_Reader_numberOfDigits.2.1 K_Reader_numberOfDigits.2.2.1 K_Reader_numberOfDigits.2.2.2 ∈ tb := tb_in (List.mem_append_right _ (List.mem_append_right _ (List.mem_append_left _ (List.mem_of_getElem? (i := 21) rfl)))) rfl
theorem zy_Reader_readSemicolon : Cond.code K_Reader_readSemicolon.1 K_Reader_readSemicolon.2.1 K_Reader_readSemicolon.2.2.1 K_Reader_readSemicolon.2.2.2 ∈ tb := tb_in (List.mem_append_right _ (List.mem_append_right _ (List.mem_append_left _ (List.mem_of_getElem? (i := 26) rfl)))) rfl
theorem zy_Reader_readArgument : Cond.code K_Reader_readArgument.1 K_Reader_readArgument.2.1 K_Reader_readArgument.2.2.1 K_Reader_readArgument.2.2.2 ∈ tb := tb_in (List.mem_append_right _ (List.mem_append_right _ (List.mem_append_left _ (List.mem_of_getElem? (i := 30) rfl)))) rfl
theorem zy_Reader_readX : Cond.code K_Reader_readX.1 K_Reader_readX.2.1 K_Reader_readX.2.2.1 K_Reader_readX.2.2.2 ∈ tb := tb_in (List.mem_append_right _ (List.mem_append_right _ (List.mem_append_left _ (List.mem_of_getElem? (i := 34) rfl)))) rfl
theorem zy_Orders_add : Cond.code K_Orders_add.1 K_Orders_add.2.1 K_Orders_add.2.2.1 K_Orders_add.2.2.2 ∈ tb := tb_in (List.mem_append_right _ (List.mem_append_right _ (List.mem_append_left _ (List.mem_of_getElem? (i := 38) rfl)))) rfl
theorem zy_A_fault : Cond.code K_A_fault.1 K_A_fault.2.1 K_A_fault.2.2.1 K_A_fault.2.2.2 ∈ tb := tb_in (List.mem_append_right _ (List.mem_append_right _ (List.mem_append_left _ (List.mem_of_getElem? (i := 42) rfl)))) rfl
theorem zy_A_order : Cond.code K_A_order.1 K_A_order.2.1 K_A_order.2.2.1 K_A_order.2.2.2 ∈ tb := tb_in (List.mem_append_right _ (List.mem_append_right _ (List.mem_append_left _ (List.mem_of_getElem? (i := 46) rfl)))) rfl
theorem zy_A_find : Cond.code K_A_find.1 K_A_find.2.1 K_A_find.2.2.1 K_A_find.2.2.2 ∈ tb := tb_in (List.mem_append_right _ (List.mem_append_right _ (List.mem_append_left _ (List.mem_of_getElem? (i := 50) rfl)))) rfl
theorem zy_Orders_has : Cond.code K_Orders_has.1 K_Orders_has.2.1 K_Orders_has.2.2.1 K_Orders_has.2.2.2 ∈ tb := tb_in (List.mem_append_right _ (List.mem_append_right _ (List.mem_append_left _ (List.mem_of_getElem? (i := 54) rfl)))) rfl
theorem zy_A_span : Cond.code K_A_span.1 K_A_span.2.1 K_A_span.2.2.1 K_A_span.2.2.2 ∈ tb := tb_in (List.mem_append_right _ (List.mem_append_right _ (List.mem_append_left _ (List.mem_of_getElem? (i := 58) rfl)))) rfl
theorem zy_A_comes : Cond.code K_A_comes.1 K_A_comes.2.1 K_A_comes.2.2.1 K_A_comes.2.2.2 ∈ tb := tb_in (List.mem_append_right _ (List.mem_append_right _ (List.mem_append_left _ (List.mem_of_getElem? (i := 63) rfl)))) rfl
theorem zy_Table_run : Cond.code K_Table_run.1 K_Table_run.2.1 K_Table_run.2.2.1 K_Table_run.2.2.2 ∈ tb := tb_in (List.mem_append_right _ (List.mem_append_right _ (List.mem_append_left _ (List.mem_of_getElem? (i := 68) rfl)))) rfl
theorem zy_Table_begin : Cond.code K_Table_begin.1 K_Table_begin.2.1 K_Table_begin.2.2.1 K_Table_begin.2.2.2 ∈ tb := tb_in (List.mem_append_right _ (List.mem_append_right _ (List.mem_append_left _ (List.mem_of_getElem? (i := 75) rfl)))) rfl
theorem zy_Value_setWhole : Cond.code K_Value_setWhole.1 K_Value_setWhole.2.1 K_Value_setWhole.2.2.1 K_Value_setWhole.2.2.2 ∈ tb := tb_in (List.mem_append_right _ (List.mem_append_right _ (List.mem_append_left _ (List.mem_of_getElem? (i := 80) rfl)))) rfl
theorem zy_Orders_amount : Cond.code K_Orders_amount.1 K_Orders_amount.2.1 K_Orders_amount.2.2.1 K_Orders_amount.2.2.2 ∈ tb := tb_in (List.mem_append_right _ (List.mem_append_right _ (List.mem_append_left _ (List.mem_of_getElem? (i := 84) rfl)))) rfl
theorem zy_Value_obey : Cond.code K_Value_obey.1 K_Value_obey.2.1 K_Value_obey.2.2.1 K_Value_obey.2.2.2 ∈ tb := tb_in (List.mem_append_right _ (List.mem_append_right _ (List.mem_append_left _ (List.mem_of_getElem? (i := 89) rfl)))) rfl
theorem zy_Value_put : Cond.code K_Value_put.1 K_Value_put.2.1 K_Value_put.2.2.1 K_Value_put.2.2.2 ∈ tb := tb_in (List.mem_append_right _ (List.mem_append_right _ (List.mem_append_left _ (List.mem_of_getElem? (i := 93) rfl)))) rfl
theorem zy_A_commonMeasure : Cond.code K_A_commonMeasure.1 K_A_commonMeasure.2.1 K_A_commonMeasure.2.2.1 K_A_commonMeasure.2.2.2 ∈ tb := tb_in (List.mem_append_right _ (List.mem_append_right _ (List.mem_append_left _ (List.mem_of_getElem? (i := 96) rfl)))) rfl
theorem zy_A_figuresOf : Cond.code K_A_figuresOf.1 K_A_figuresOf.2.1 K_A_figuresOf.2.2.1 K_A_figuresOf.2.2.2 ∈ tb := tb_in (List.mem_append_right _ (List.mem_append_right _ (List.mem_append_left _ (List.mem_of_getElem? (i := 108) rfl)))) rfl
theorem zy_Value_turned : Cond.code K_Value_turned.1 K_Value_turned.2.1 K_Value_turned.2.2.1 K_Value_turned.2.2.2 ∈ tb := tb_in (List.mem_append_right _ (List.mem_append_right _ (List.mem_append_left _ (List.mem_of_getElem? (i := 113) rfl)))) rfl
theorem zy_Value_across : Cond.code K_Value_across.1 K_Value_across.2.1 K_Value_across.2.2.1 K_Value_across.2.2.2 ∈ tb := tb_in (List.mem_append_right _ (List.mem_append_right _ (List.mem_append_left _ (List.mem_of_getElem? (i := 118) rfl)))) rfl
theorem zy_Value_without : Cond.code K_Value_without.1 K_Value_without.2.1 K_Value_without.2.2.1 K_Value_without.2.2.2 ∈ tb := tb_in (List.mem_append_right _ (List.mem_append_right _ (List.mem_append_left _ (List.mem_of_getElem? (i := 122) rfl)))) rfl
theorem zy_Value_part : Cond.code K_Value_part.1 K_Value_part.2.1 K_Value_part.2.2.1 K_Value_part.2.2.2 ∈ tb := tb_in (List.mem_append_right _ (List.mem_append_right _ (List.mem_append_left _ (List.mem_of_getElem? (i := 126) rfl)))) rfl
theorem zy_A_fails : Cond.code K_A_fails.1 K_A_fails.2.1 K_A_fails.2.2.1 K_A_fails.2.2.2 ∈ tb := tb_in (List.mem_append_right _ (List.mem_append_right _ (List.mem_append_left _ (List.mem_of_getElem? (i := 130) rfl)))) rfl
theorem zy_A_said : Cond.code K_A_said.1 K_A_said.2.1 K_A_said.2.2.1 K_A_said.2.2.2 ∈ tb := tb_in (List.mem_append_right _ (List.mem_append_right _ (List.mem_append_left _ (List.mem_of_getElem? (i := 134) rfl)))) rfl
theorem zy_A_claim : Cond.code K_A_claim.1 K_A_claim.2.1 K_A_claim.2.2.1 K_A_claim.2.2.2 ∈ tb := tb_in (List.mem_append_right _ (List.mem_append_right _ (List.mem_append_left _ (List.mem_of_getElem? (i := 141) rfl)))) rfl
theorem zy_Values_tell : Cond.code K_Values_tell.1 K_Values_tell.2.1 K_Values_tell.2.2.1 K_Values_tell.2.2.2 ∈ tb := tb_in (List.mem_append_right _ (List.mem_append_right _ (List.mem_append_left _ (List.mem_of_getElem? (i := 145) rfl)))) rfl
theorem zy_A_isTold : Cond.code K_A_isTold.1 K_A_isTold.2.1 K_A_isTold.2.2.1 K_A_isTold.2.2.2 ∈ tb := tb_in (List.mem_append_right _ (List.mem_append_right _ (List.mem_append_left _ (List.mem_of_getElem? (i := 148) rfl)))) rfl
theorem zy_Values_append : Cond.code K_Values_append.1 K_Values_append.2.1 K_Values_append.2.2.1 K_Values_append.2.2.2 ∈ tb := tb_in (List.mem_append_right _ (List.mem_append_right _ (List.mem_append_left _ (List.mem_of_getElem? (i := 156) rfl)))) rfl
theorem zy_A_judge : Cond.code K_A_judge.1 K_A_judge.2.1 K_A_judge.2.2.1 K_A_judge.2.2.2 ∈ tb := tb_in (List.mem_append_right _ (List.mem_append_right _ (List.mem_append_left _ (List.mem_of_getElem? (i := 160) rfl)))) rfl
theorem zy_Values_holds : Cond.code K_Values_holds.1 K_Values_holds.2.1 K_Values_holds.2.2.1 K_Values_holds.2.2.2 ∈ tb := tb_in (List.mem_append_right _ (List.mem_append_right _ (List.mem_append_left _ (List.mem_of_getElem? (i := 165) rfl)))) rfl
theorem zy_Value_is : Cond.code K_Value_is.1 K_Value_is.2.1 K_Value_is.2.2.1 K_Value_is.2.2.2 ∈ tb := tb_in (List.mem_append_right _ (List.mem_append_right _ (List.mem_append_left _ (List.mem_of_getElem? (i := 169) rfl)))) rfl
theorem zy_A_same : Cond.code K_A_same.1 K_A_same.2.1 K_A_same.2.2.1 K_A_same.2.2.2 ∈ tb := tb_in (List.mem_append_right _ (List.mem_append_right _ (List.mem_append_left _ (List.mem_of_getElem? (i := 173) rfl)))) rfl
theorem zy_Table_countAll : Cond.code K_Table_countAll.1 K_Table_countAll.2.1 K_Table_countAll.2.2.1 K_Table_countAll.2.2.2 ∈ tb := tb_in (List.mem_append_right _ (List.mem_append_right _ (List.mem_append_left _ (List.mem_of_getElem? (i := 177) rfl)))) rfl
theorem zy_A_findUnlike : Cond.code K_A_findUnlike.1 K_A_findUnlike.2.1 K_A_findUnlike.2.2.1 K_A_findUnlike.2.2.2 ∈ tb := tb_in (List.mem_append_right _ (List.mem_append_right _ (List.mem_append_left _ (List.mem_of_getElem? (i := 182) rfl)))) rfl
theorem zy_Table_firstOfAll : Cond.code K_Table_firstOfAll.1 K_Table_firstOfAll.2.1 K_Table_firstOfAll.2.2.1 K_Table_firstOfAll.2.2.2 ∈ tb := tb_in (List.mem_append_right _ (List.mem_append_right _ (List.mem_append_left _ (List.mem_of_getElem? (i := 186) rfl)))) rfl
theorem zy_Table_comesToEnd : Cond.code K_Table_comesToEnd.1 K_Table_comesToEnd.2.1 K_Table_comesToEnd.2.2.1 K_Table_comesToEnd.2.2.2 ∈ tb := tb_in (List.mem_append_right _ (List.mem_append_right _ (List.mem_append_left _ (List.mem_of_getElem? (i := 193) rfl)))) rfl
theorem zy_Value_copyFrom : Cond.code K_Value_copyFrom.1 K_Value_copyFrom.2.1 K_Value_copyFrom.2.2.1 K_Value_copyFrom.2.2.2 ∈ tb := tb_in (List.mem_append_right _ (List.mem_append_right _ (List.mem_append_left _ (List.mem_of_getElem? (i := 198) rfl)))) rfl
theorem zy_Table_nextOfAll : Cond.code K_Table_nextOfAll.1 K_Table_nextOfAll.2.1 K_Table_nextOfAll.2.2.1 K_Table_nextOfAll.2.2.2 ∈ tb := tb_in (List.mem_append_right _ (List.mem_append_right _ (List.mem_append_left _ (List.mem_of_getElem? (i := 203) rfl)))) rfl
theorem zy_A_unlike : Cond.code K_A_unlike.1 K_A_unlike.2.1 K_A_unlike.2.2.1 K_A_unlike.2.2.2 ∈ tb := tb_in (List.mem_append_right _ (List.mem_append_right _ (List.mem_append_left _ (List.mem_of_getElem? (i := 207) rfl)))) rfl
theorem zy_A_proof : Cond.code K_A_proof.1 K_A_proof.2.1 K_A_proof.2.2.1 K_A_proof.2.2.2 ∈ tb := tb_in (List.mem_append_right _ (List.mem_append_right _ (List.mem_append_left _ (List.mem_of_getElem? (i := 211) rfl)))) rfl
theorem zy_Sum_prove : Cond.code K_Sum_prove.1 K_Sum_prove.2.1 K_Sum_prove.2.2.1 K_Sum_prove.2.2.2 ∈ tb := tb_in (List.mem_append_right _ (List.mem_append_right _ (List.mem_append_left _ (List.mem_of_getElem? (i := 215) rfl)))) rfl
theorem zy_JArr_fillJ : Cond.code K_JArr_fillJ.1 K_JArr_fillJ.2.1 K_JArr_fillJ.2.2.1 K_JArr_fillJ.2.2.2 ∈ tb := tb_in (List.mem_append_right _ (List.mem_append_right _ (List.mem_append_left _ (List.mem_of_getElem? (i := 218) rfl)))) rfl
theorem zy_Sum_follow : Cond.code K_Sum_follow.1 K_Sum_follow.2.1 K_Sum_follow.2.2.1 K_Sum_follow.2.2.2 ∈ tb := tb_in (List.mem_append_right _ (List.mem_append_right _ (List.mem_append_left _ (List.mem_of_getElem? (i := 223) rfl)))) rfl
theorem zy_Sum_addPart : Cond.code K_Sum_addPart.1 K_Sum_addPart.2.1 K_Sum_addPart.2.2.1 K_Sum_addPart.2.2.2 ∈ tb := tb_in (List.mem_append_right _ (List.mem_append_right _ (List.mem_append_left _ (List.mem_of_getElem? (i := 227) rfl)))) rfl
theorem zy_Sum_multiply : Cond.code K_Sum_multiply.1 K_Sum_multiply.2.1 K_Sum_multiply.2.2.1 K_Sum_multiply.2.2.2 ∈ tb := tb_in (List.mem_append_right _ (List.mem_append_right _ (List.mem_append_left _ (List.mem_of_getElem? (i := 232) rfl)))) rfl
theorem zy_Sum_multiplyByLetter : Cond.code K_Sum_multiplyByLetter.1 K_Sum_multiplyByLetter.2.1 K_Sum_multiplyByLetter.2.2.1 K_Sum_multiplyByLetter.2.2.2 ∈ tb := tb_in (List.mem_append_right _ (List.mem_append_right _ (List.mem_append_left _ (List.mem_of_getElem? (i := 236) rfl)))) rfl
theorem zy_Sum_putInLowestTerms : Cond.code K_Sum_putInLowestTerms.1 K_Sum_putInLowestTerms.2.1 K_Sum_putInLowestTerms.2.2.1 K_Sum_putInLowestTerms.2.2.2 ∈ tb := tb_in (List.mem_append_right _ (List.mem_append_right _ (List.mem_append_right _ (List.mem_append_left _ (List.mem_of_getElem? (i := 0) rfl))))) rfl
theorem zy_A_hear : Cond.code K_A_hear.1 K_A_hear.2.1 K_A_hear.2.2.1 K_A_hear.2.2.2 ∈ tb := tb_in (List.mem_append_right _ (List.mem_append_right _ (List.mem_append_right _ (List.mem_append_left _ (List.mem_of_getElem? (i := 8) rfl))))) rfl
theorem zy_A_fits : Cond.code K_A_fits.1 K_A_fits.2.1 K_A_fits.2.2.1 K_A_fits.2.2.2 ∈ tb := tb_in (List.mem_append_right _ (List.mem_append_right _ (List.mem_append_right _ (List.mem_append_left _ (List.mem_of_getElem? (i := 12) rfl))))) rfl
theorem zy_Tally_clear : Cond.code K_Tally_clear.1 K_Tally_clear.2.1 K_Tally_clear.2.2.1 K_Tally_clear.2.2.2 ∈ tb := tb_in (List.mem_append_right _ (List.mem_append_right _ (List.mem_append_right _ (List.mem_append_left _ (List.mem_of_getElem? (i := 16) rfl))))) rfl
theorem zy_Table_saysJust : Cond.code K_Table_saysJust.1 K_Table_saysJust.2.1 K_Table_saysJust.2.2.1 K_Table_saysJust.2.2.2 ∈ tb := tb_in (List.mem_append_right _ (List.mem_append_right _ (List.mem_append_right _ (List.mem_append_left _ (List.mem_of_getElem? (i := 21) rfl))))) rfl
theorem zy_Tally_note : Cond.code K_Tally_note.1 K_Tally_note.2.1 K_Tally_note.2.2.1 K_Tally_note.2.2.2 ∈ tb := tb_in (List.mem_append_right _ (List.mem_append_right _ (List.mem_append_right _ (List.mem_append_left _ (List.mem_of_getElem? (i := 26) rfl))))) rfl
theorem zy_Tally_pick : Cond.code K_Tally_pick.1 K_Tally_pick.2.1 K_Tally_pick.2.2.1 K_Tally_pick.2.2.2 ∈ tb := tb_in (List.mem_append_right _ (List.mem_append_right _ (List.mem_append_right _ (List.mem_append_left _ (List.mem_of_getElem? (i := 33) rfl))))) rfl
theorem zy_A_more : Cond.code K_A_more.1 K_A_more.2.1 K_A_more.2.2.1 K_A_more.2.2.2 ∈ tb := tb_in (List.mem_append_right _ (List.mem_append_right _ (List.mem_append_right _ (List.mem_append_left _ (List.mem_of_getElem? (i := 37) rfl))))) rfl
theorem zy_Parting_lowestTelling : Cond.code K_Parting_lowestTelling.1 K_Parting_lowestTelling.2.1 K_Parting_lowestTelling.2.2.1 K_Parting_lowestTelling.2.2.2 ∈ tb := tb_in (List.mem_append_right _ (List.mem_append_right _ (List.mem_append_right _ (List.mem_append_left _ (List.mem_of_getElem? (i := 42) rfl))))) rfl
theorem zy_Parting_groupBySaid : Cond.code K_Parting_groupBySaid.1 K_Parting_groupBySaid.2.1 K_Parting_groupBySaid.2.2.1 K_Parting_groupBySaid.2.2.2 ∈ tb := tb_in (List.mem_append_right _ (List.mem_append_right _ (List.mem_append_right _ (List.mem_append_left _ (List.mem_of_getElem? (i := 47) rfl))))) rfl
theorem zy_Parting_startAll : Cond.code K_Parting_startAll.1 K_Parting_startAll.2.1 K_Parting_startAll.2.2.1 K_Parting_startAll.2.2.2 ∈ tb := tb_in (List.mem_append_right _ (List.mem_append_right _ (List.mem_append_right _ (List.mem_append_left _ (List.mem_of_getElem? (i := 52) rfl))))) rfl
theorem zy_Parting_stepAll : Cond.code K_Parting_stepAll.1 K_Parting_stepAll.2.1 K_Parting_stepAll.2.2.1 K_Parting_stepAll.2.2.2 ∈ tb := tb_in (List.mem_append_right _ (List.mem_append_right _ (List.mem_append_right _ (List.mem_append_left _ (List.mem_of_getElem? (i := 59) rfl))))) rfl
theorem zy_Parting_countGroups : Cond.code K_Parting_countGroups.1 K_Parting_countGroups.2.1 K_Parting_countGroups.2.2.1 K_Parting_countGroups.2.2.2 ∈ tb := tb_in (List.mem_append_right _ (List.mem_append_right _ (List.mem_append_right _ (List.mem_append_left _ (List.mem_of_getElem? (i := 65) rfl))))) rfl
theorem zy_Parting_seat : Cond.code K_Parting_seat.1 K_Parting_seat.2.1 K_Parting_seat.2.2.1 K_Parting_seat.2.2.2 ∈ tb := tb_in (List.mem_append_right _ (List.mem_append_right _ (List.mem_append_right _ (List.mem_append_left _ (List.mem_of_getElem? (i := 69) rfl))))) rfl
theorem zy_A_kit : Cond.code K_A_kit.1 K_A_kit.2.1 K_A_kit.2.2.1 K_A_kit.2.2.2 ∈ tb := tb_in (List.mem_append_right _ (List.mem_append_right _ (List.mem_append_right _ (List.mem_append_left _ (List.mem_of_getElem? (i := 79) rfl))))) rfl
theorem zy_A_made : Cond.code K_A_made.1 K_A_made.2.1 K_A_made.2.2.1 K_A_made.2.2.2 ∈ tb := tb_in (List.mem_append_right _ (List.mem_append_right _ (List.mem_append_right _ (List.mem_append_left _ (List.mem_of_getElem? (i := 84) rfl))))) rfl
theorem zy_Maker_fewest : Cond.code K_Maker_fewest.1 K_Maker_fewest.2.1 K_Maker_fewest.2.2.1 K_Maker_fewest.2.2.2 ∈ tb := tb_in (List.mem_append_right _ (List.mem_append_right _ (List.mem_append_right _ (List.mem_append_left _ (List.mem_of_getElem? (i := 88) rfl))))) rfl
theorem zy_Maker_reaches : Cond.code K_Maker_reaches.1 K_Maker_reaches.2.1 K_Maker_reaches.2.2.1 K_Maker_reaches.2.2.2 ∈ tb := tb_in (List.mem_append_right _ (List.mem_append_right _ (List.mem_append_right _ (List.mem_append_left _ (List.mem_of_getElem? (i := 93) rfl))))) rfl
theorem zy_Maker_spread : Cond.code K_Maker_spread.1 K_Maker_spread.2.1 K_Maker_spread.2.2.1 K_Maker_spread.2.2.2 ∈ tb := tb_in (List.mem_append_right _ (List.mem_append_right _ (List.mem_append_right _ (List.mem_append_left _ (List.mem_of_getElem? (i := 97) rfl))))) rfl
theorem zy_A_slip : Cond.code K_A_slip.1 K_A_slip.2.1 K_A_slip.2.2.1 K_A_slip.2.2.2 ∈ tb := tb_in (List.mem_append_right _ (List.mem_append_right _ (List.mem_append_right _ (List.mem_append_left _ (List.mem_of_getElem? (i := 104) rfl))))) rfl
theorem zy_Table_runWithSlip : Cond.code K_Table_runWithSlip.1 K_Table_runWithSlip.2.1 K_Table_runWithSlip.2.2.1 K_Table_runWithSlip.2.2.2 ∈ tb := tb_in (List.mem_append_right _ (List.mem_append_right _ (List.mem_append_right _ (List.mem_append_left _ (List.mem_of_getElem? (i := 110) rfl))))) rfl
theorem zy_Table_slipAt : Cond.code K_Table_slipAt.1 K_Table_slipAt.2.1 K_Table_slipAt.2.2.1 K_Table_slipAt.2.2.2 ∈ tb := tb_in (List.mem_append_right _ (List.mem_append_right _ (List.mem_append_right _ (List.mem_append_left _ (List.mem_of_getElem? (i := 113) rfl))))) rfl
theorem zy_A_ask : Cond.code K_A_ask.1 K_A_ask.2.1 K_A_ask.2.2.1 K_A_ask.2.2.2 ∈ tb := tb_in (List.mem_append_right _ (List.mem_append_right _ (List.mem_append_right _ (List.mem_append_left _ (List.mem_of_getElem? (i := 117) rfl))))) rfl
theorem zy_A_known : Cond.code K_A_known.1 K_A_known.2.1 K_A_known.2.2.1 K_A_known.2.2.2 ∈ tb := tb_in (List.mem_append_right _ (List.mem_append_right _ (List.mem_append_right _ (List.mem_append_left _ (List.mem_of_getElem? (i := 121) rfl))))) rfl
theorem zy_A_fewestAsks : Cond.code K_A_fewestAsks.1 K_A_fewestAsks.2.1 K_A_fewestAsks.2.2.1 K_A_fewestAsks.2.2.2 ∈ tb := tb_in (List.mem_append_right _ (List.mem_append_right _ (List.mem_append_right _ (List.mem_append_left _ (List.mem_of_getElem? (i := 125) rfl))))) rfl
theorem zy_JInt_bitCount : Cond.code K_JInt_bitCount.1 K_JInt_bitCount.2.1 K_JInt_bitCount.2.2.1 K_JInt_bitCount.2.2.2 ∈ tb := tb_in (List.mem_append_right _ (List.mem_append_right _ (List.mem_append_right _ (List.mem_append_left _ (List.mem_of_getElem? (i := 128) rfl))))) rfl
theorem zy_A_mostAsksBehind : Cond.code K_A_mostAsksBehind.1 K_A_mostAsksBehind.2.1 K_A_mostAsksBehind.2.2.1 K_A_mostAsksBehind.2.2.2 ∈ tb := tb_in (List.mem_append_right _ (List.mem_append_right _ (List.mem_append_right _ (List.mem_append_left _ (List.mem_of_getElem? (i := 135) rfl))))) rfl
theorem zy_A_multiplesOf : Cond.code K_A_multiplesOf.1 K_A_multiplesOf.2.1 K_A_multiplesOf.2.2.1 K_A_multiplesOf.2.2.2 ∈ tb := tb_in (List.mem_append_right _ (List.mem_append_right _ (List.mem_append_right _ (List.mem_append_left _ (List.mem_of_getElem? (i := 138) rfl))))) rfl
theorem zy_A_lowestFirstAsk : Cond.code K_A_lowestFirstAsk.1 K_A_lowestFirstAsk.2.1 K_A_lowestFirstAsk.2.2.1 K_A_lowestFirstAsk.2.2.2 ∈ tb := tb_in (List.mem_append_right _ (List.mem_append_right _ (List.mem_append_right _ (List.mem_append_left _ (List.mem_of_getElem? (i := 143) rfl))))) rfl
theorem zy_A_rest : Cond.code K_A_rest.1 K_A_rest.2.1 K_A_rest.2.2.1 K_A_rest.2.2.2 ∈ tb := tb_in (List.mem_append_right _ (List.mem_append_right _ (List.mem_append_right _ (List.mem_append_left _ (List.mem_of_getElem? (i := 147) rfl))))) rfl
theorem zy_Tape_marks : Cond.code K_Tape_marks.1 K_Tape_marks.2.1 K_Tape_marks.2.2.1 K_Tape_marks.2.2.2 ∈ tb := tb_in (List.mem_append_right _ (List.mem_append_right _ (List.mem_append_right _ (List.mem_append_left _ (List.mem_of_getElem? (i := 151) rfl))))) rfl
theorem zy_Tape_restBy : Cond.code K_Tape_restBy.1 K_Tape_restBy.2.1 K_Tape_restBy.2.2.1 K_Tape_restBy.2.2.2 ∈ tb := tb_in (List.mem_append_right _ (List.mem_append_right _ (List.mem_append_right _ (List.mem_append_left _ (List.mem_of_getElem? (i := 155) rfl))))) rfl
theorem zy_A_struck : Cond.code K_A_struck.1 K_A_struck.2.1 K_A_struck.2.2.1 K_A_struck.2.2.2 ∈ tb := tb_in (List.mem_append_right _ (List.mem_append_right _ (List.mem_append_right _ (List.mem_append_left _ (List.mem_of_getElem? (i := 159) rfl))))) rfl
theorem zy_A_play : Cond.code K_A_play.1 K_A_play.2.1 K_A_play.2.2.1 K_A_play.2.2.2 ∈ tb := tb_in (List.mem_append_right _ (List.mem_append_right _ (List.mem_append_right _ (List.mem_append_left _ (List.mem_of_getElem? (i := 163) rfl))))) rfl
theorem zy_A_go : Cond.code K_A_go.1 K_A_go.2.1 K_A_go.2.2.1 K_A_go.2.2.2 ∈ tb := tb_in (List.mem_append_right _ (List.mem_append_right _ (List.mem_append_right _ (List.mem_append_left _ (List.mem_of_getElem? (i := 168) rfl))))) rfl
theorem zy_State_ordersPlayed : Cond.code K_State_ordersPlayed.1 K_State_ordersPlayed.2.1 K_State_ordersPlayed.2.2.1 K_State_ordersPlayed.2.2.2 ∈ tb := tb_in (List.mem_append_right _ (List.mem_append_right _ (List.mem_append_right _ (List.mem_append_left _ (List.mem_of_getElem? (i := 172) rfl))))) rfl
theorem zy_Values_readLast : Cond.code K_Values_readLast.1 K_Values_readLast.2.1 K_Values_readLast.2.2.1 K_Values_readLast.2.2.2 ∈ tb := tb_in (List.mem_append_right _ (List.mem_append_right _ (List.mem_append_right _ (List.mem_append_left _ (List.mem_of_getElem? (i := 177) rfl))))) rfl
theorem zy_A_undo : Cond.code K_A_undo.1 K_A_undo.2.1 K_A_undo.2.2.1 K_A_undo.2.2.2 ∈ tb := tb_in (List.mem_append_right _ (List.mem_append_right _ (List.mem_append_right _ (List.mem_append_left _ (List.mem_of_getElem? (i := 182) rfl))))) rfl
theorem zy_A_value : Cond.code K_A_value.1 K_A_value.2.1 K_A_value.2.2.1 K_A_value.2.2.2 ∈ tb := tb_in (List.mem_append_right _ (List.mem_append_right _ (List.mem_append_right _ (List.mem_append_left _ (List.mem_of_getElem? (i := 186) rfl))))) rfl
theorem zy_A_image : Cond.code K_A_image.1 K_A_image.2.1 K_A_image.2.2.1 K_A_image.2.2.2 ∈ tb := tb_in (List.mem_append_right _ (List.mem_append_right _ (List.mem_append_right _ (List.mem_append_left _ (List.mem_of_getElem? (i := 190) rfl))))) rfl
theorem zy_State_copyFrom : Cond.code K_State_copyFrom.1 K_State_copyFrom.2.1 K_State_copyFrom.2.2.1 K_State_copyFrom.2.2.2 ∈ tb := tb_in (List.mem_append_right _ (List.mem_append_right _ (List.mem_append_right _ (List.mem_append_left _ (List.mem_of_getElem? (i := 194) rfl))))) rfl
theorem zy_Values_copyFrom : Cond.code K_Values_copyFrom.1 K_Values_copyFrom.2.1 K_Values_copyFrom.2.2.1 K_Values_copyFrom.2.2.2 ∈ tb := tb_in (List.mem_append_right _ (List.mem_append_right _ (List.mem_append_right _ (List.mem_append_left _ (List.mem_of_getElem? (i := 199) rfl))))) rfl
theorem zy_Orders_copyFrom : Cond.code K_Orders_copyFrom.1 K_Orders_copyFrom.2.1 K_Orders_copyFrom.2.2.1 K_Orders_copyFrom.2.2.2 ∈ tb := tb_in (List.mem_append_right _ (List.mem_append_right _ (List.mem_append_right _ (List.mem_append_left _ (List.mem_of_getElem? (i := 205) rfl))))) rfl
theorem zy_A_back : Cond.code K_A_back.1 K_A_back.2.1 K_A_back.2.2.1 K_A_back.2.2.2 ∈ tb := tb_in (List.mem_append_right _ (List.mem_append_right _ (List.mem_append_right _ (List.mem_append_left _ (List.mem_of_getElem? (i := 211) rfl))))) rfl
theorem zy_A_about : Cond.code K_A_about.1 K_A_about.2.1 K_A_about.2.2.1 K_A_about.2.2.2 ∈ tb := tb_in (List.mem_append_right _ (List.mem_append_right _ (List.mem_append_right _ (List.mem_append_left _ (List.mem_of_getElem? (i := 215) rfl))))) rfl
theorem zy_M_copyAll : Cond.code K_M_copyAll.1 K_M_copyAll.2.1 K_M_copyAll.2.2.1 K_M_copyAll.2.2.2 ∈ tb := tb_in (List.mem_append_right _ (List.mem_append_right _ (List.mem_append_right _ (List.mem_append_left _ (List.mem_of_getElem? (i := 224) rfl))))) rfl
theorem zy_M_think : Cond.code K_M_think.1 K_M_think.2.1 K_M_think.2.2.1 K_M_think.2.2.2 ∈ tb := tb_in (List.mem_append_right _ (List.mem_append_right _ (List.mem_append_right _ (List.mem_append_right _ (List.mem_append_left _ (List.mem_of_getElem? (i := 68) rfl)))))) rfl
theorem zy_M_isIn : Cond.code K_M_isIn.1 K_M_isIn.2.1 K_M_isIn.2.2.1 K_M_isIn.2.2.2 ∈ tb := tb_in (List.mem_append_right _ (List.mem_append_right _ (List.mem_append_right _ (List.mem_append_right _ (List.mem_append_left _ (List.mem_of_getElem? (i := 71) rfl)))))) rfl
theorem zy_M_feed : Cond.code K_M_feed.1 K_M_feed.2.1 K_M_feed.2.2.1 K_M_feed.2.2.2 ∈ tb := tb_in (List.mem_append_right _ (List.mem_append_right _ (List.mem_append_right _ (List.mem_append_right _ (List.mem_append_left _ (List.mem_of_getElem? (i := 75) rfl)))))) rfl
theorem zy_M_four : Cond.code K_M_four.1 K_M_four.2.1 K_M_four.2.2.1 K_M_four.2.2.2 ∈ tb := tb_in (List.mem_append_right _ (List.mem_append_right _ (List.mem_append_right _ (List.mem_append_right _ (List.mem_append_left _ (List.mem_of_getElem? (i := 79) rfl)))))) rfl
theorem zy_M_end : Cond.code K_M_end.1 K_M_end.2.1 K_M_end.2.2.1 K_M_end.2.2.2 ∈ tb := tb_in (List.mem_append_right _ (List.mem_append_right _ (List.mem_append_right _ (List.mem_append_right _ (List.mem_append_left _ (List.mem_of_getElem? (i := 83) rfl)))))) rfl
theorem zy_M_table : Cond.code K_M_table.1 K_M_table.2.1 K_M_table.2.2.1 K_M_table.2.2.2 ∈ tb := tb_in (List.mem_append_right _ (List.mem_append_right _ (List.mem_append_right _ (List.mem_append_right _ (List.mem_append_left _ (List.mem_of_getElem? (i := 87) rfl)))))) rfl
theorem zy_M_readTable : Cond.code K_M_readTable.1 K_M_readTable.2.1 K_M_readTable.2.2.1 K_M_readTable.2.2.2 ∈ tb := tb_in (List.mem_append_right _ (List.mem_append_right _ (List.mem_append_right _ (List.mem_append_right _ (List.mem_append_left _ (List.mem_of_getElem? (i := 91) rfl)))))) rfl
theorem zy_M_nextToken : Cond.code K_M_nextToken.1 K_M_nextToken.2.1 K_M_nextToken.2.2.1 K_M_nextToken.2.2.2 ∈ tb := tb_in (List.mem_append_right _ (List.mem_append_right _ (List.mem_append_right _ (List.mem_append_right _ (List.mem_append_left _ (List.mem_of_getElem? (i := 95) rfl)))))) rfl
theorem zy_M_byteAt : Cond.code K_M_byteAt.1 K_M_byteAt.2.1 K_M_byteAt.2.2.1 K_M_byteAt.2.2.2 ∈ tb := tb_in (List.mem_append_right _ (List.mem_append_right _ (List.mem_append_right _ (List.mem_append_right _ (List.mem_append_left _ (List.mem_of_getElem? (i := 99) rfl)))))) rfl
theorem zy_M_isFigure : Cond.code K_M_isFigure.1 K_M_isFigure.2.1 K_M_isFigure.2.2.1 K_M_isFigure.2.2.2 ∈ tb := tb_in (List.mem_append_right _ (List.mem_append_right _ (List.mem_append_right _ (List.mem_append_right _ (List.mem_append_left _ (List.mem_of_getElem? (i := 102) rfl)))))) rfl
theorem zy_M_isLetterByte : Cond.code K_M_isLetterByte.1 K_M_isLetterByte.2.1 K_M_isLetterByte.2.2.1 K_M_isLetterByte.2.2.2 ∈ tb := tb_in (List.mem_append_right _ (List.mem_append_right _ (List.mem_append_right _ (List.mem_append_right _ (List.mem_append_left _ (List.mem_of_getElem? (i := 106) rfl)))))) rfl
theorem zy_M_kindAt : Cond.code K_M_kindAt.1 K_M_kindAt.2.1 K_M_kindAt.2.2.1 K_M_kindAt.2.2.2 ∈ tb := tb_in (List.mem_append_right _ (List.mem_append_right _ (List.mem_append_right _ (List.mem_append_right _ (List.mem_append_left _ (List.mem_of_getElem? (i := 111) rfl)))))) rfl
theorem zy_M_w3 : Cond.code K_M_w3.1 K_M_w3.2.1 K_M_w3.2.2.1 K_M_w3.2.2.2 ∈ tb := tb_in (List.mem_append_right _ (List.mem_append_right _ (List.mem_append_right _ (List.mem_append_right _ (List.mem_append_left _ (List.mem_of_getElem? (i := 114) rfl)))))) rfl
theorem zy_M_isWord : Cond.code K_M_isWord.1 K_M_isWord.2.1 K_M_isWord.2.2.1 K_M_isWord.2.2.2 ∈ tb := tb_in (List.mem_append_right _ (List.mem_append_right _ (List.mem_append_right _ (List.mem_append_right _ (List.mem_append_left _ (List.mem_of_getElem? (i := 118) rfl)))))) rfl
theorem zy_M_w4 : Cond.code K_M_w4.1 K_M_w4.2.1 K_M_w4.2.2.1 K_M_w4.2.2.2 ∈ tb := tb_in (List.mem_append_right _ (List.mem_append_right _ (List.mem_append_right _ (List.mem_append_right _ (List.mem_append_left _ (List.mem_of_getElem? (i := 121) rfl)))))) rfl
theorem zy_M_w5 : Cond.code K_M_w5.1 K_M_w5.2.1 K_M_w5.2.2.1 K_M_w5.2.2.2 ∈ tb := tb_in (List.mem_append_right _ (List.mem_append_right _ (List.mem_append_right _ (List.mem_append_right _ (List.mem_append_left _ (List.mem_of_getElem? (i := 124) rfl)))))) rfl
theorem zy_M_w6 : Cond.code K_M_w6.1 K_M_w6.2.1 K_M_w6.2.2.1 K_M_w6.2.2.2 ∈ tb := tb_in (List.mem_append_right _ (List.mem_append_right _ (List.mem_append_right _ (List.mem_append_right _ (List.mem_append_left _ (List.mem_of_getElem? (i := 128) rfl)))))) rfl
theorem zy_M_hide : Cond.code K_M_hide.1 K_M_hide.2.1 K_M_hide.2.2.1 K_M_hide.2.2.2 ∈ tb := tb_in (List.mem_append_right _ (List.mem_append_right _ (List.mem_append_right _ (List.mem_append_right _ (List.mem_append_left _ (List.mem_of_getElem? (i := 132) rfl)))))) rfl
theorem zy_M_letterAt : Cond.code K_M_letterAt.1 K_M_letterAt.2.1 K_M_letterAt.2.2.1 K_M_letterAt.2.2.2 ∈ tb := tb_in (List.mem_append_right _ (List.mem_append_right _ (List.mem_append_right _ (List.mem_append_right _ (List.mem_append_left _ (List.mem_of_getElem? (i := 136) rfl)))))) rfl
theorem zy_M_numberAt : Cond.code K_M_numberAt.1 K_M_numberAt.2.1 K_M_numberAt.2.2.1 K_M_numberAt.2.2.2 ∈ tb := tb_in (List.mem_append_right _ (List.mem_append_right _ (List.mem_append_right _ (List.mem_append_right _ (List.mem_append_left _ (List.mem_of_getElem? (i := 142) rfl)))))) rfl
theorem zy_M_order0 : Cond.code K_M_order0.1 K_M_order0.2.1 K_M_order0.2.2.1 K_M_order0.2.2.2 ∈ tb := tb_in (List.mem_append_right _ (List.mem_append_right _ (List.mem_append_right _ (List.mem_append_right _ (List.mem_append_left _ (List.mem_of_getElem? (i := 147) rfl)))))) rfl
theorem zy_M_xAt : Cond.code K_M_xAt.1 K_M_xAt.2.1 K_M_xAt.2.2.1 K_M_xAt.2.2.2 ∈ tb := tb_in (List.mem_append_right _ (List.mem_append_right _ (List.mem_append_right _ (List.mem_append_right _ (List.mem_append_left _ (List.mem_of_getElem? (i := 151) rfl)))))) rfl
theorem zy_M_fault : Cond.code K_M_fault.1 K_M_fault.2.1 K_M_fault.2.2.1 K_M_fault.2.2.2 ∈ tb := tb_in (List.mem_append_right _ (List.mem_append_right _ (List.mem_append_right _ (List.mem_append_right _ (List.mem_append_left _ (List.mem_of_getElem? (i := 155) rfl)))))) rfl
theorem zy_M_order : Cond.code K_M_order.1 K_M_order.2.1 K_M_order.2.2.1 K_M_order.2.2.2 ∈ tb := tb_in (List.mem_append_right _ (List.mem_append_right _ (List.mem_append_right _ (List.mem_append_right _ (List.mem_append_left _ (List.mem_of_getElem? (i := 159) rfl)))))) rfl
theorem zy_M_isTable : Cond.code K_M_isTable.1 K_M_isTable.2.1 K_M_isTable.2.2.1 K_M_isTable.2.2.2 ∈ tb := tb_in (List.mem_append_right _ (List.mem_append_right _ (List.mem_append_right _ (List.mem_append_right _ (List.mem_append_left _ (List.mem_of_getElem? (i := 163) rfl)))))) rfl
theorem zy_M_ordersOf : Cond.code K_M_ordersOf.1 K_M_ordersOf.2.1 K_M_ordersOf.2.2.1 K_M_ordersOf.2.2.2 ∈ tb := tb_in (List.mem_append_right _ (List.mem_append_right _ (List.mem_append_right _ (List.mem_append_right _ (List.mem_append_left _ (List.mem_of_getElem? (i := 167) rfl)))))) rfl
theorem zy_M_xOf : Cond.code K_M_xOf.1 K_M_xOf.2.1 K_M_xOf.2.2.1 K_M_xOf.2.2.2 ∈ tb := tb_in (List.mem_append_right _ (List.mem_append_right _ (List.mem_append_right _ (List.mem_append_right _ (List.mem_append_left _ (List.mem_of_getElem? (i := 171) rfl)))))) rfl
theorem zy_M_kindOf : Cond.code K_M_kindOf.1 K_M_kindOf.2.1 K_M_kindOf.2.2.1 K_M_kindOf.2.2.2 ∈ tb := tb_in (List.mem_append_right _ (List.mem_append_right _ (List.mem_append_right _ (List.mem_append_right _ (List.mem_append_left _ (List.mem_of_getElem? (i := 175) rfl)))))) rfl
theorem zy_M_span : Cond.code K_M_span.1 K_M_span.2.1 K_M_span.2.2.1 K_M_span.2.2.2 ∈ tb := tb_in (List.mem_append_right _ (List.mem_append_right _ (List.mem_append_right _ (List.mem_append_right _ (List.mem_append_left _ (List.mem_of_getElem? (i := 179) rfl)))))) rfl
theorem zy_M_isHidden : Cond.code K_M_isHidden.1 K_M_isHidden.2.1 K_M_isHidden.2.2.1 K_M_isHidden.2.2.2 ∈ tb := tb_in (List.mem_append_right _ (List.mem_append_right _ (List.mem_append_right _ (List.mem_append_right _ (List.mem_append_left _ (List.mem_of_getElem? (i := 183) rfl)))))) rfl
theorem zy_M_spanOf : Cond.code K_M_spanOf.1 K_M_spanOf.2.1 K_M_spanOf.2.2.1 K_M_spanOf.2.2.2 ∈ tb := tb_in (List.mem_append_right _ (List.mem_append_right _ (List.mem_append_right _ (List.mem_append_right _ (List.mem_append_left _ (List.mem_of_getElem? (i := 187) rfl)))))) rfl
theorem zy_M_comes : Cond.code K_M_comes.1 K_M_comes.2.1 K_M_comes.2.2.1 K_M_comes.2.2.2 ∈ tb := tb_in (List.mem_append_right _ (List.mem_append_right _ (List.mem_append_right _ (List.mem_append_right _ (List.mem_append_left _ (List.mem_of_getElem? (i := 191) rfl)))))) rfl
theorem zy_M_thinkNow : Cond.code K_M_thinkNow.1 K_M_thinkNow.2.1 K_M_thinkNow.2.2.1 K_M_thinkNow.2.2.2 ∈ tb := tb_in (List.mem_append_right _ (List.mem_append_right _ (List.mem_append_right _ (List.mem_append_right _ (List.mem_append_left _ (List.mem_of_getElem? (i := 196) rfl)))))) rfl
theorem zy_M_goTo : Cond.code K_M_goTo.1 K_M_goTo.2.1 K_M_goTo.2.2.1 K_M_goTo.2.2.2 ∈ tb := tb_in (List.mem_append_right _ (List.mem_append_right _ (List.mem_append_right _ (List.mem_append_right _ (List.mem_append_left _ (List.mem_of_getElem? (i := 200) rfl)))))) rfl
theorem zy_M_begin : Cond.code K_M_begin.1 K_M_begin.2.1 K_M_begin.2.2.1 K_M_begin.2.2.2 ∈ tb := tb_in (List.mem_append_right _ (List.mem_append_right _ (List.mem_append_right _ (List.mem_append_right _ (List.mem_append_left _ (List.mem_of_getElem? (i := 204) rfl)))))) rfl
theorem zy_M_does : Cond.code K_M_does.1 K_M_does.2.1 K_M_does.2.2.1 K_M_does.2.2.2 ∈ tb := tb_in (List.mem_append_right _ (List.mem_append_right _ (List.mem_append_right _ (List.mem_append_right _ (List.mem_append_left _ (List.mem_of_getElem? (i := 208) rfl)))))) rfl
theorem zy_M_lay : Cond.code K_M_lay.1 K_M_lay.2.1 K_M_lay.2.2.1 K_M_lay.2.2.2 ∈ tb := tb_in (List.mem_append_right _ (List.mem_append_right _ (List.mem_append_right _ (List.mem_append_right _ (List.mem_append_left _ (List.mem_of_getElem? (i := 212) rfl)))))) rfl
theorem zy_M_common : Cond.code K_M_common.1 K_M_common.2.1 K_M_common.2.2.1 K_M_common.2.2.2 ∈ tb := tb_in (List.mem_append_right _ (List.mem_append_right _ (List.mem_append_right _ (List.mem_append_right _ (List.mem_append_left _ (List.mem_of_getElem? (i := 215) rfl)))))) rfl
theorem zy_M_figures : Cond.code K_M_figures.1 K_M_figures.2.1 K_M_figures.2.2.1 K_M_figures.2.2.2 ∈ tb := tb_in (List.mem_append_right _ (List.mem_append_right _ (List.mem_append_right _ (List.mem_append_right _ (List.mem_append_left _ (List.mem_of_getElem? (i := 222) rfl)))))) rfl
theorem zy_M_figuresOf : Cond.code K_M_figuresOf.1 K_M_figuresOf.2.1 K_M_figuresOf.2.2.1 K_M_figuresOf.2.2.2 ∈ tb := tb_in (List.mem_append_right _ (List.mem_append_right _ (List.mem_append_right _ (List.mem_append_right _ (List.mem_append_left _ (List.mem_of_getElem? (i := 225) rfl)))))) rfl
theorem zy_M_tenTo : Cond.code K_M_tenTo.1 K_M_tenTo.2.1 K_M_tenTo.2.2.1 K_M_tenTo.2.2.2 ∈ tb := tb_in (List.mem_append_right _ (List.mem_append_right _ (List.mem_append_right _ (List.mem_append_right _ (List.mem_append_left _ (List.mem_of_getElem? (i := 229) rfl)))))) rfl
theorem zy_M_turned : Cond.code K_M_turned.1 K_M_turned.2.1 K_M_turned.2.2.1 K_M_turned.2.2.2 ∈ tb := tb_in (List.mem_append_right _ (List.mem_append_right _ (List.mem_append_right _ (List.mem_append_right _ (List.mem_append_left _ (List.mem_of_getElem? (i := 232) rfl)))))) rfl
theorem zy_M_across : Cond.code K_M_across.1 K_M_across.2.1 K_M_across.2.2.1 K_M_across.2.2.2 ∈ tb := tb_in (List.mem_append_right _ (List.mem_append_right _ (List.mem_append_right _ (List.mem_append_right _ (List.mem_append_left _ (List.mem_of_getElem? (i := 235) rfl)))))) rfl
theorem zy_M_fails : Cond.code K_M_fails.1 K_M_fails.2.1 K_M_fails.2.2.1 K_M_fails.2.2.2 ∈ tb := tb_in (List.mem_append_right _ (List.mem_append_right _ (List.mem_append_right _ (List.mem_append_right _ (List.mem_append_left _ (List.mem_of_getElem? (i := 239) rfl)))))) rfl
theorem zy_M_said : Cond.code K_M_said.1 K_M_said.2.1 K_M_said.2.2.1 K_M_said.2.2.2 ∈ tb := tb_in (List.mem_append_right _ (List.mem_append_right _ (List.mem_append_right _ (List.mem_append_right _ (List.mem_append_right _ (List.mem_of_getElem? (i := 3) rfl)))))) rfl
theorem zy_M_claim : Cond.code K_M_claim.1 K_M_claim.2.1 K_M_claim.2.2.1 K_M_claim.2.2.2 ∈ tb := tb_in (List.mem_append_right _ (List.mem_append_right _ (List.mem_append_right _ (List.mem_append_right _ (List.mem_append_right _ (List.mem_of_getElem? (i := 7) rfl)))))) rfl
theorem zy_M_listed : Cond.code K_M_listed.1 K_M_listed.2.1 K_M_listed.2.2.1 K_M_listed.2.2.2 ∈ tb := tb_in (List.mem_append_right _ (List.mem_append_right _ (List.mem_append_right _ (List.mem_append_right _ (List.mem_append_right _ (List.mem_of_getElem? (i := 11) rfl)))))) rfl
theorem zy_M_isFraction : Cond.code K_M_isFraction.1 K_M_isFraction.2.1 K_M_isFraction.2.2.1 K_M_isFraction.2.2.2 ∈ tb := tb_in (List.mem_append_right _ (List.mem_append_right _ (List.mem_append_right _ (List.mem_append_right _ (List.mem_append_right _ (List.mem_of_getElem? (i := 14) rfl)))))) rfl
theorem zy_M_write : Cond.code K_M_write.1 K_M_write.2.1 K_M_write.2.2.1 K_M_write.2.2.2 ∈ tb := tb_in (List.mem_append_right _ (List.mem_append_right _ (List.mem_append_right _ (List.mem_append_right _ (List.mem_append_right _ (List.mem_of_getElem? (i := 21) rfl)))))) rfl
theorem zy_M_hear : Cond.code K_M_hear.1 K_M_hear.2.1 K_M_hear.2.2.1 K_M_hear.2.2.2 ∈ tb := tb_in (List.mem_append_right _ (List.mem_append_right _ (List.mem_append_right _ (List.mem_append_right _ (List.mem_append_right _ (List.mem_of_getElem? (i := 25) rfl)))))) rfl
theorem zy_M_judge : Cond.code K_M_judge.1 K_M_judge.2.1 K_M_judge.2.2.1 K_M_judge.2.2.2 ∈ tb := tb_in (List.mem_append_right _ (List.mem_append_right _ (List.mem_append_right _ (List.mem_append_right _ (List.mem_append_right _ (List.mem_of_getElem? (i := 29) rfl)))))) rfl
theorem zy_M_same : Cond.code K_M_same.1 K_M_same.2.1 K_M_same.2.2.1 K_M_same.2.2.2 ∈ tb := tb_in (List.mem_append_right _ (List.mem_append_right _ (List.mem_append_right _ (List.mem_append_right _ (List.mem_append_right _ (List.mem_of_getElem? (i := 33) rfl)))))) rfl
theorem zy_M_allOf : Cond.code K_M_allOf.1 K_M_allOf.2.1 K_M_allOf.2.2.1 K_M_allOf.2.2.2 ∈ tb := tb_in (List.mem_append_right _ (List.mem_append_right _ (List.mem_append_right _ (List.mem_append_right _ (List.mem_append_right _ (List.mem_of_getElem? (i := 37) rfl)))))) rfl
theorem zy_M_lastOf : Cond.code K_M_lastOf.1 K_M_lastOf.2.1 K_M_lastOf.2.2.1 K_M_lastOf.2.2.2 ∈ tb := tb_in (List.mem_append_right _ (List.mem_append_right _ (List.mem_append_right _ (List.mem_append_right _ (List.mem_append_right _ (List.mem_of_getElem? (i := 41) rfl)))))) rfl
theorem zy_M_firstOf : Cond.code K_M_firstOf.1 K_M_firstOf.2.1 K_M_firstOf.2.2.1 K_M_firstOf.2.2.2 ∈ tb := tb_in (List.mem_append_right _ (List.mem_append_right _ (List.mem_append_right _ (List.mem_append_right _ (List.mem_append_right _ (List.mem_of_getElem? (i := 45) rfl)))))) rfl
theorem zy_M_isSame : Cond.code K_M_isSame.1 K_M_isSame.2.1 K_M_isSame.2.2.1 K_M_isSame.2.2.2 ∈ tb := tb_in (List.mem_append_right _ (List.mem_append_right _ (List.mem_append_right _ (List.mem_append_right _ (List.mem_append_right _ (List.mem_of_getElem? (i := 50) rfl)))))) rfl
theorem zy_M_thinkFirst : Cond.code K_M_thinkFirst.1 K_M_thinkFirst.2.1 K_M_thinkFirst.2.2.1 K_M_thinkFirst.2.2.2 ∈ tb := tb_in (List.mem_append_right _ (List.mem_append_right _ (List.mem_append_right _ (List.mem_append_right _ (List.mem_append_right _ (List.mem_of_getElem? (i := 54) rfl)))))) rfl
theorem zy_M_thinkNext : Cond.code K_M_thinkNext.1 K_M_thinkNext.2.1 K_M_thinkNext.2.2.1 K_M_thinkNext.2.2.2 ∈ tb := tb_in (List.mem_append_right _ (List.mem_append_right _ (List.mem_append_right _ (List.mem_append_right _ (List.mem_append_right _ (List.mem_of_getElem? (i := 58) rfl)))))) rfl
theorem zy_M_unlike : Cond.code K_M_unlike.1 K_M_unlike.2.1 K_M_unlike.2.2.1 K_M_unlike.2.2.2 ∈ tb := tb_in (List.mem_append_right _ (List.mem_append_right _ (List.mem_append_right _ (List.mem_append_right _ (List.mem_append_right _ (List.mem_of_getElem? (i := 62) rfl)))))) rfl
theorem zy_M_proof : Cond.code K_M_proof.1 K_M_proof.2.1 K_M_proof.2.2.1 K_M_proof.2.2.2 ∈ tb := tb_in (List.mem_append_right _ (List.mem_append_right _ (List.mem_append_right _ (List.mem_append_right _ (List.mem_append_right _ (List.mem_of_getElem? (i := 66) rfl)))))) rfl
theorem zy_M_proves : Cond.code K_M_proves.1 K_M_proves.2.1 K_M_proves.2.2.1 K_M_proves.2.2.2 ∈ tb := tb_in (List.mem_append_right _ (List.mem_append_right _ (List.mem_append_right _ (List.mem_append_right _ (List.mem_append_right _ (List.mem_of_getElem? (i := 70) rfl)))))) rfl
theorem zy_M_reduced : Cond.code K_M_reduced.1 K_M_reduced.2.1 K_M_reduced.2.2.1 K_M_reduced.2.2.2 ∈ tb := tb_in (List.mem_append_right _ (List.mem_append_right _ (List.mem_append_right _ (List.mem_append_right _ (List.mem_append_right _ (List.mem_of_getElem? (i := 74) rfl)))))) rfl
theorem zy_M_isNumber : Cond.code K_M_isNumber.1 K_M_isNumber.2.1 K_M_isNumber.2.2.1 K_M_isNumber.2.2.2 ∈ tb := tb_in (List.mem_append_right _ (List.mem_append_right _ (List.mem_append_right _ (List.mem_append_right _ (List.mem_append_right _ (List.mem_of_getElem? (i := 78) rfl)))))) rfl
theorem zy_M_fits : Cond.code K_M_fits.1 K_M_fits.2.1 K_M_fits.2.2.1 K_M_fits.2.2.2 ∈ tb := tb_in (List.mem_append_right _ (List.mem_append_right _ (List.mem_append_right _ (List.mem_append_right _ (List.mem_append_right _ (List.mem_of_getElem? (i := 82) rfl)))))) rfl
theorem zy_M_isFit : Cond.code K_M_isFit.1 K_M_isFit.2.1 K_M_isFit.2.2.1 K_M_isFit.2.2.2 ∈ tb := tb_in (List.mem_append_right _ (List.mem_append_right _ (List.mem_append_right _ (List.mem_append_right _ (List.mem_append_right _ (List.mem_of_getElem? (i := 86) rfl)))))) rfl
theorem zy_M_more : Cond.code K_M_more.1 K_M_more.2.1 K_M_more.2.2.1 K_M_more.2.2.2 ∈ tb := tb_in (List.mem_append_right _ (List.mem_append_right _ (List.mem_append_right _ (List.mem_append_right _ (List.mem_append_right _ (List.mem_of_getElem? (i := 90) rfl)))))) rfl
theorem zy_M_layAll : Cond.code K_M_layAll.1 K_M_layAll.2.1 K_M_layAll.2.2.1 K_M_layAll.2.2.2 ∈ tb := tb_in (List.mem_append_right _ (List.mem_append_right _ (List.mem_append_right _ (List.mem_append_right _ (List.mem_append_right _ (List.mem_of_getElem? (i := 94) rfl)))))) rfl
theorem zy_M_areUnlike : Cond.code K_M_areUnlike.1 K_M_areUnlike.2.1 K_M_areUnlike.2.2.1 K_M_areUnlike.2.2.2 ∈ tb := tb_in (List.mem_append_right _ (List.mem_append_right _ (List.mem_append_right _ (List.mem_append_right _ (List.mem_append_right _ (List.mem_of_getElem? (i := 98) rfl)))))) rfl
theorem zy_M_sumOf : Cond.code K_M_sumOf.1 K_M_sumOf.2.1 K_M_sumOf.2.2.1 K_M_sumOf.2.2.2 ∈ tb := tb_in (List.mem_append_right _ (List.mem_append_right _ (List.mem_append_right _ (List.mem_append_right _ (List.mem_append_right _ (List.mem_of_getElem? (i := 102) rfl)))))) rfl
theorem zy_M_isAlike : Cond.code K_M_isAlike.1 K_M_isAlike.2.1 K_M_isAlike.2.2.1 K_M_isAlike.2.2.2 ∈ tb := tb_in (List.mem_append_right _ (List.mem_append_right _ (List.mem_append_right _ (List.mem_append_right _ (List.mem_append_right _ (List.mem_of_getElem? (i := 110) rfl)))))) rfl
theorem zy_M_kit : Cond.code K_M_kit.1 K_M_kit.2.1 K_M_kit.2.2.1 K_M_kit.2.2.2 ∈ tb := tb_in (List.mem_append_right _ (List.mem_append_right _ (List.mem_append_right _ (List.mem_append_right _ (List.mem_append_right _ (List.mem_of_getElem? (i := 114) rfl)))))) rfl
theorem zy_M_made : Cond.code K_M_made.1 K_M_made.2.1 K_M_made.2.2.1 K_M_made.2.2.2 ∈ tb := tb_in (List.mem_append_right _ (List.mem_append_right _ (List.mem_append_right _ (List.mem_append_right _ (List.mem_append_right _ (List.mem_of_getElem? (i := 118) rfl)))))) rfl
theorem zy_M_isMade : Cond.code K_M_isMade.1 K_M_isMade.2.1 K_M_isMade.2.2.1 K_M_isMade.2.2.2 ∈ tb := tb_in (List.mem_append_right _ (List.mem_append_right _ (List.mem_append_right _ (List.mem_append_right _ (List.mem_append_right _ (List.mem_of_getElem? (i := 122) rfl)))))) rfl
theorem zy_M_leadsAll : Cond.code K_M_leadsAll.1 K_M_leadsAll.2.1 K_M_leadsAll.2.2.1 K_M_leadsAll.2.2.2 ∈ tb := tb_in (List.mem_append_right _ (List.mem_append_right _ (List.mem_append_right _ (List.mem_append_right _ (List.mem_append_right _ (List.mem_of_getElem? (i := 126) rfl)))))) rfl
theorem zy_M_leads : Cond.code K_M_leads.1 K_M_leads.2.1 K_M_leads.2.2.1 K_M_leads.2.2.2 ∈ tb := tb_in (List.mem_append_right _ (List.mem_append_right _ (List.mem_append_right _ (List.mem_append_right _ (List.mem_append_right _ (List.mem_of_getElem? (i := 130) rfl)))))) rfl
theorem zy_M_slip : Cond.code K_M_slip.1 K_M_slip.2.1 K_M_slip.2.2.1 K_M_slip.2.2.2 ∈ tb := tb_in (List.mem_append_right _ (List.mem_append_right _ (List.mem_append_right _ (List.mem_append_right _ (List.mem_append_right _ (List.mem_of_getElem? (i := 134) rfl)))))) rfl
theorem zy_M_isSlip : Cond.code K_M_isSlip.1 K_M_isSlip.2.1 K_M_isSlip.2.2.1 K_M_isSlip.2.2.2 ∈ tb := tb_in (List.mem_append_right _ (List.mem_append_right _ (List.mem_append_right _ (List.mem_append_right _ (List.mem_append_right _ (List.mem_of_getElem? (i := 138) rfl)))))) rfl
theorem zy_M_slips : Cond.code K_M_slips.1 K_M_slips.2.1 K_M_slips.2.2.1 K_M_slips.2.2.2 ∈ tb := tb_in (List.mem_append_right _ (List.mem_append_right _ (List.mem_append_right _ (List.mem_append_right _ (List.mem_append_right _ (List.mem_of_getElem? (i := 142) rfl)))))) rfl
theorem zy_M_turnedRound : Cond.code K_M_turnedRound.1 K_M_turnedRound.2.1 K_M_turnedRound.2.2.1 K_M_turnedRound.2.2.2 ∈ tb := tb_in (List.mem_append_right _ (List.mem_append_right _ (List.mem_append_right _ (List.mem_append_right _ (List.mem_append_right _ (List.mem_of_getElem? (i := 145) rfl)))))) rfl
theorem zy_M_ask : Cond.code K_M_ask.1 K_M_ask.2.1 K_M_ask.2.2.1 K_M_ask.2.2.2 ∈ tb := tb_in (List.mem_append_right _ (List.mem_append_right _ (List.mem_append_right _ (List.mem_append_right _ (List.mem_append_right _ (List.mem_of_getElem? (i := 149) rfl)))))) rfl
theorem zy_M_known : Cond.code K_M_known.1 K_M_known.2.1 K_M_known.2.2.1 K_M_known.2.2.2 ∈ tb := tb_in (List.mem_append_right _ (List.mem_append_right _ (List.mem_append_right _ (List.mem_append_right _ (List.mem_append_right _ (List.mem_of_getElem? (i := 153) rfl)))))) rfl
theorem zy_M_reckon : Cond.code K_M_reckon.1 K_M_reckon.2.1 K_M_reckon.2.2.1 K_M_reckon.2.2.2 ∈ tb := tb_in (List.mem_append_right _ (List.mem_append_right _ (List.mem_append_right _ (List.mem_append_right _ (List.mem_append_right _ (List.mem_of_getElem? (i := 157) rfl)))))) rfl
theorem zy_M_isLike : Cond.code K_M_isLike.1 K_M_isLike.2.1 K_M_isLike.2.2.1 K_M_isLike.2.2.2 ∈ tb := tb_in (List.mem_append_right _ (List.mem_append_right _ (List.mem_append_right _ (List.mem_append_right _ (List.mem_append_right _ (List.mem_of_getElem? (i := 161) rfl)))))) rfl
theorem zy_M_has : Cond.code K_M_has.1 K_M_has.2.1 K_M_has.2.2.1 K_M_has.2.2.2 ∈ tb := tb_in (List.mem_append_right _ (List.mem_append_right _ (List.mem_append_right _ (List.mem_append_right _ (List.mem_append_right _ (List.mem_of_getElem? (i := 164) rfl)))))) rfl
theorem zy_M_takesBy : Cond.code K_M_takesBy.1 K_M_takesBy.2.1 K_M_takesBy.2.2.1 K_M_takesBy.2.2.2 ∈ tb := tb_in (List.mem_append_right _ (List.mem_append_right _ (List.mem_append_right _ (List.mem_append_right _ (List.mem_append_right _ (List.mem_of_getElem? (i := 168) rfl)))))) rfl
theorem zy_M_rest : Cond.code K_M_rest.1 K_M_rest.2.1 K_M_rest.2.2.1 K_M_rest.2.2.2 ∈ tb := tb_in (List.mem_append_right _ (List.mem_append_right _ (List.mem_append_right _ (List.mem_append_right _ (List.mem_append_right _ (List.mem_of_getElem? (i := 172) rfl)))))) rfl
theorem zy_M_hidden : Cond.code K_M_hidden.1 K_M_hidden.2.1 K_M_hidden.2.2.1 K_M_hidden.2.2.2 ∈ tb := tb_in (List.mem_append_right _ (List.mem_append_right _ (List.mem_append_right _ (List.mem_append_right _ (List.mem_append_right _ (List.mem_of_getElem? (i := 176) rfl)))))) rfl
theorem zy_M_restBy : Cond.code K_M_restBy.1 K_M_restBy.2.1 K_M_restBy.2.2.1 K_M_restBy.2.2.2 ∈ tb := tb_in (List.mem_append_right _ (List.mem_append_right _ (List.mem_append_right _ (List.mem_append_right _ (List.mem_append_right _ (List.mem_of_getElem? (i := 180) rfl)))))) rfl
theorem zy_M_struck : Cond.code K_M_struck.1 K_M_struck.2.1 K_M_struck.2.2.1 K_M_struck.2.2.2 ∈ tb := tb_in (List.mem_append_right _ (List.mem_append_right _ (List.mem_append_right _ (List.mem_append_right _ (List.mem_append_right _ (List.mem_of_getElem? (i := 184) rfl)))))) rfl
theorem zy_M_play : Cond.code K_M_play.1 K_M_play.2.1 K_M_play.2.2.1 K_M_play.2.2.2 ∈ tb := tb_in (List.mem_append_right _ (List.mem_append_right _ (List.mem_append_right _ (List.mem_append_right _ (List.mem_append_right _ (List.mem_of_getElem? (i := 188) rfl)))))) rfl
theorem zy_M_go : Cond.code K_M_go.1 K_M_go.2.1 K_M_go.2.2.1 K_M_go.2.2.2 ∈ tb := tb_in (List.mem_append_right _ (List.mem_append_right _ (List.mem_append_right _ (List.mem_append_right _ (List.mem_append_right _ (List.mem_of_getElem? (i := 192) rfl)))))) rfl
theorem zy_M_keep : Cond.code K_M_keep.1 K_M_keep.2.1 K_M_keep.2.2.1 K_M_keep.2.2.2 ∈ tb := tb_in (List.mem_append_right _ (List.mem_append_right _ (List.mem_append_right _ (List.mem_append_right _ (List.mem_append_right _ (List.mem_of_getElem? (i := 196) rfl)))))) rfl
theorem zy_M_undo : Cond.code K_M_undo.1 K_M_undo.2.1 K_M_undo.2.2.1 K_M_undo.2.2.2 ∈ tb := tb_in (List.mem_append_right _ (List.mem_append_right _ (List.mem_append_right _ (List.mem_append_right _ (List.mem_append_right _ (List.mem_of_getElem? (i := 200) rfl)))))) rfl
theorem zy_M_value : Cond.code K_M_value.1 K_M_value.2.1 K_M_value.2.2.1 K_M_value.2.2.2 ∈ tb := tb_in (List.mem_append_right _ (List.mem_append_right _ (List.mem_append_right _ (List.mem_append_right _ (List.mem_append_right _ (List.mem_of_getElem? (i := 204) rfl)))))) rfl
theorem zy_M_image : Cond.code K_M_image.1 K_M_image.2.1 K_M_image.2.2.1 K_M_image.2.2.2 ∈ tb := tb_in (List.mem_append_right _ (List.mem_append_right _ (List.mem_append_right _ (List.mem_append_right _ (List.mem_append_right _ (List.mem_of_getElem? (i := 208) rfl)))))) rfl
theorem zy_M_back : Cond.code K_M_back.1 K_M_back.2.1 K_M_back.2.2.1 K_M_back.2.2.2 ∈ tb := tb_in (List.mem_append_right _ (List.mem_append_right _ (List.mem_append_right _ (List.mem_append_right _ (List.mem_append_right _ (List.mem_of_getElem? (i := 212) rfl)))))) rfl
theorem zy_M_about : Cond.code K_M_about.1 K_M_about.2.1 K_M_about.2.2.1 K_M_about.2.2.2 ∈ tb := tb_in (List.mem_append_right _ (List.mem_append_right _ (List.mem_append_right _ (List.mem_append_right _ (List.mem_append_right _ (List.mem_of_getElem? (i := 216) rfl)))))) rfl
theorem zin_A : Cond.initialized "ThinkNumber" ∈ tb := tb_in (List.mem_append_left _ (List.mem_of_getElem? (i := 1) rfl)) rfl
theorem zin_Maker : Cond.initialized "ThinkNumber$Maker" ∈ tb := tb_in (List.mem_append_left _ (List.mem_of_getElem? (i := 12) rfl)) rfl
theorem zin_Orders : Cond.initialized "ThinkNumber$Orders" ∈ tb := tb_in (List.mem_append_left _ (List.mem_of_getElem? (i := 5) rfl)) rfl
theorem zin_Parting : Cond.initialized "ThinkNumber$Parting" ∈ tb := tb_in (List.mem_append_left _ (List.mem_of_getElem? (i := 11) rfl)) rfl
theorem zin_Reader : Cond.initialized "ThinkNumber$Reader" ∈ tb := tb_in (List.mem_append_left _ (List.mem_of_getElem? (i := 3) rfl)) rfl
theorem zin_State : Cond.initialized "ThinkNumber$State" ∈ tb := tb_in (List.mem_append_left _ (List.mem_of_getElem? (i := 6) rfl)) rfl
theorem zin_Sum : Cond.initialized "ThinkNumber$Sum" ∈ tb := tb_in (List.mem_append_left _ (List.mem_of_getElem? (i := 10) rfl)) rfl
theorem zin_Table : Cond.initialized "ThinkNumber$Table" ∈ tb := tb_in (List.mem_append_left _ (List.mem_of_getElem? (i := 4) rfl)) rfl
theorem zin_Tally : Cond.initialized "ThinkNumber$Tally" ∈ tb := tb_in (List.mem_append_left _ (List.mem_of_getElem? (i := 9) rfl)) rfl
theorem zin_Tape : Cond.initialized "ThinkNumber$Tape" ∈ tb := tb_in (List.mem_append_left _ (List.mem_of_getElem? (i := 2) rfl)) rfl
theorem zin_Value : Cond.initialized "ThinkNumber$Value" ∈ tb := tb_in (List.mem_append_left _ (List.mem_of_getElem? (i := 8) rfl)) rfl
theorem zin_Values : Cond.initialized "ThinkNumber$Values" ∈ tb := tb_in (List.mem_append_left _ (List.mem_of_getElem? (i := 7) rfl)) rfl
theorem zin_M : Cond.initialized "ThinkNumberModel" ∈ tb := tb_in (List.mem_append_left _ (List.mem_of_getElem? (i := 13) rfl)) rfl
theorem zin_JInt : Cond.initialized "java/lang/Integer" ∈ tb := tb_in (List.mem_append_left _ (List.mem_of_getElem? (i := 21) rfl)) rfl
theorem zin_JStr : Cond.initialized "java/lang/String" ∈ tb := tb_in (List.mem_append_left _ (List.mem_of_getElem? (i := 15) rfl)) rfl
theorem zin_JLat : Cond.initialized "java/lang/StringLatin1" ∈ tb := tb_in (List.mem_append_left _ (List.mem_of_getElem? (i := 16) rfl)) rfl
theorem zin_JArr : Cond.initialized "java/util/Arrays" ∈ tb := tb_in (List.mem_append_left _ (List.mem_of_getElem? (i := 14) rfl)) rfl
theorem zin_JPre : Cond.initialized "jdk/internal/util/Preconditions" ∈ tb := tb_in (List.mem_append_left _ (List.mem_of_getElem? (i := 17) rfl)) rfl
theorem zs_A_think : Cond.instanceMethod K_A_think.1 ∈ tb := tb_in (List.mem_append_right _ (List.mem_append_left _ (List.mem_of_getElem? (i := 111) rfl))) rfl
theorem zl_A_think : Cond.selects "ThinkNumber" K_A_think.1 K_A_think.1 ∈ tb := tb_in (List.mem_append_right _ (List.mem_append_left _ (List.mem_of_getElem? (i := 112) rfl))) rfl
theorem zs_A_isNumber : Cond.static K_A_isNumber.1 ∈ tb := tb_in (List.mem_append_right _ (List.mem_append_left _ (List.mem_of_getElem? (i := 115) rfl))) rfl
theorem zs_A_feed : Cond.instanceMethod K_A_feed.1 ∈ tb := tb_in (List.mem_append_right _ (List.mem_append_left _ (List.mem_of_getElem? (i := 118) rfl))) rfl
theorem zl_A_feed : Cond.selects "ThinkNumber" K_A_feed.1 K_A_feed.1 ∈ tb := tb_in (List.mem_append_right _ (List.mem_append_left _ (List.mem_of_getElem? (i := 119) rfl))) rfl
theorem zs_Tape_hasRoom : Cond.instanceMethod K_Tape_hasRoom.1 ∈ tb := tb_in (List.mem_append_right _ (List.mem_append_left _ (List.mem_of_getElem? (i := 122) rfl))) rfl
theorem zl_Tape_hasRoom : Cond.selects "ThinkNumber$Tape" K_Tape_hasRoom.1 K_Tape_hasRoom.1 ∈ tb := tb_in (List.mem_append_right _ (List.mem_append_left _ (List.mem_of_getElem? (i := 123) rfl))) rfl
theorem zs_Tape_append : Cond.instanceMethod K_Tape_append.1 ∈ tb := tb_in (List.mem_append_right _ (List.mem_append_left _ (List.mem_of_getElem? (i := 126) rfl))) rfl
theorem zl_Tape_append : Cond.selects "ThinkNumber$Tape" K_Tape_append.1 K_Tape_append.1 ∈ tb := tb_in (List.mem_append_right _ (List.mem_append_left _ (List.mem_of_getElem? (i := 127) rfl))) rfl
theorem zs_A_end : Cond.instanceMethod K_A_end.1 ∈ tb := tb_in (List.mem_append_right _ (List.mem_append_left _ (List.mem_of_getElem? (i := 130) rfl))) rfl
theorem zl_A_end : Cond.selects "ThinkNumber" K_A_end.1 K_A_end.1 ∈ tb := tb_in (List.mem_append_right _ (List.mem_append_left _ (List.mem_of_getElem? (i := 131) rfl))) rfl
theorem zs_A_table : Cond.instanceMethod K_A_table.1 ∈ tb := tb_in (List.mem_append_right _ (List.mem_append_left _ (List.mem_of_getElem? (i := 134) rfl))) rfl
theorem zl_A_table : Cond.selects "ThinkNumber" K_A_table.1 K_A_table.1 ∈ tb := tb_in (List.mem_append_right _ (List.mem_append_left _ (List.mem_of_getElem? (i := 135) rfl))) rfl
theorem zs_Reader_read : Cond.instanceMethod K_Reader_read.1 ∈ tb := tb_in (List.mem_append_right _ (List.mem_append_left _ (List.mem_of_getElem? (i := 138) rfl))) rfl
theorem zl_Reader_read : Cond.selects "ThinkNumber$Reader" K_Reader_read.1 K_Reader_read.1 ∈ tb := tb_in (List.mem_append_right _ (List.mem_append_left _ (List.mem_of_getElem? (i := 139) rfl))) rfl
theorem zs_Table_clear : Cond.instanceMethod K_Table_clear.1 ∈ tb := tb_in (List.mem_append_right _ (List.mem_append_left _ (List.mem_of_getElem? (i := 142) rfl))) rfl
theorem zl_Table_clear : Cond.selects "ThinkNumber$Table" K_Table_clear.1 K_Table_clear.1 ∈ tb := tb_in (List.mem_append_right _ (List.mem_append_left _ (List.mem_of_getElem? (i := 143) rfl))) rfl
theorem zs_JArr_fillI : Cond.static K_JArr_fillI.1 ∈ tb := tb_in (List.mem_append_right _ (List.mem_append_left _ (List.mem_of_getElem? (i := 146) rfl))) rfl
theorem zs_Reader_advance : Cond.instanceMethod K_Reader_advance.1 ∈ tb := tb_in (List.mem_append_right _ (List.mem_append_left _ (List.mem_of_getElem? (i := 150) rfl))) rfl
theorem zl_Reader_advance : Cond.selects "ThinkNumber$Reader" K_Reader_advance.1 K_Reader_advance.1 ∈ tb := tb_sel (List.mem_of_getElem? (i := 0) (by decide +kernel)) rfl
theorem zs_Reader_sortOf : Cond.static K_Reader_sortOf.1 ∈ tb := tb_in (List.mem_append_right _ (List.mem_append_left _ (List.mem_of_getElem? (i := 153) rfl))) rfl
theorem zs_Reader_readClause : Cond.instanceMethod K_Reader_readClause.1 ∈ tb := tb_in (List.mem_append_right _ (List.mem_append_left _ (List.mem_of_getElem? (i := 157) rfl))) rfl
theorem zl_Reader_readClause : Cond.selects "ThinkNumber$Reader" K_Reader_readClause.1 K_Reader_readClause.1 ∈ tb := tb_sel (List.mem_of_getElem? (i := 1) (by decide +kernel)) rfl
theorem zs_Reader_kindOfWord : Cond.instanceMethod K_Reader_kindOfWord.1 ∈ tb := tb_in (List.mem_append_right _ (List.mem_append_left _ (List.mem_of_getElem? (i := 161) rfl))) rfl
theorem zl_Reader_kindOfWord : Cond.selects "ThinkNumber$Reader" K_Reader_kindOfWord.1 K_Reader_kindOfWord.1 ∈ tb := tb_sel (List.mem_of_getElem? (i := 2) (by decide +kernel)) rfl
theorem zs_Reader_wordOf : Cond.static K_Reader_wordOf.1 ∈ tb := tb_in (List.mem_append_right _ (List.mem_append_left _ (List.mem_of_getElem? (i := 164) rfl))) rfl
theorem zs_Reader_spells : Cond.instanceMethod K_Reader_spells.1 ∈ tb := tb_in (List.mem_append_right _ (List.mem_append_left _ (List.mem_of_getElem? (i := 179) rfl))) rfl
theorem zl_Reader_spells : Cond.selects "ThinkNumber$Reader" K_Reader_spells.1 K_Reader_spells.1 ∈ tb := tb_sel (List.mem_of_getElem? (i := 3) (by decide +kernel)) rfl
theorem zs_JStr_length : Cond.instanceMethod K_JStr_length.1 ∈ tb := tb_in (List.mem_append_right _ (List.mem_append_left _ (List.mem_of_getElem? (i := 182) rfl))) rfl
theorem zl_JStr_length : Cond.selects "java/lang/String" K_JStr_length.1 K_JStr_length.1 ∈ tb := tb_in (List.mem_append_right _ (List.mem_append_left _ (List.mem_of_getElem? (i := 183) rfl))) rfl
theorem zs_JStr_coder : Cond.instanceMethod K_JStr_coder.1 ∈ tb := tb_in (List.mem_append_right _ (List.mem_append_left _ (List.mem_of_getElem? (i := 186) rfl))) rfl
theorem zl_JStr_coder : Cond.selects "java/lang/String" K_JStr_coder.1 K_JStr_coder.1 ∈ tb := tb_in (List.mem_append_right _ (List.mem_append_left _ (List.mem_of_getElem? (i := 187) rfl))) rfl
theorem zs_JStr_charAt : Cond.instanceMethod K_JStr_charAt.1 ∈ tb := tb_in (List.mem_append_right _ (List.mem_append_left _ (List.mem_of_getElem? (i := 192) rfl))) rfl
theorem zl_JStr_charAt : Cond.selects "java/lang/String" K_JStr_charAt.1 K_JStr_charAt.1 ∈ tb := tb_in (List.mem_append_right _ (List.mem_append_left _ (List.mem_of_getElem? (i := 193) rfl))) rfl
theorem zs_JStr_isLatin1 : Cond.instanceMethod K_JStr_isLatin1.1 ∈ tb := tb_in (List.mem_append_right _ (List.mem_append_left _ (List.mem_of_getElem? (i := 196) rfl))) rfl
theorem zl_JStr_isLatin1 : Cond.selects "java/lang/String" K_JStr_isLatin1.1 K_JStr_isLatin1.1 ∈ tb := tb_in (List.mem_append_right _ (List.mem_append_left _ (List.mem_of_getElem? (i := 197) rfl))) rfl
theorem zs_JLat_charAt : Cond.static K_JLat_charAt.1 ∈ tb := tb_in (List.mem_append_right _ (List.mem_append_left _ (List.mem_of_getElem? (i := 200) rfl))) rfl
theorem zs_JStr_checkIndex : Cond.static K_JStr_checkIndex.1 ∈ tb := tb_in (List.mem_append_right _ (List.mem_append_left _ (List.mem_of_getElem? (i := 203) rfl))) rfl
theorem zs_JPre_checkIndex : Cond.static K_JPre_checkIndex.1 ∈ tb := tb_in (List.mem_append_right _ (List.mem_append_left _ (List.mem_of_getElem? (i := 208) rfl))) rfl
theorem zs_Reader_refuse : Cond.instanceMethod K_Reader_refuse.1 ∈ tb := tb_in (List.mem_append_right _ (List.mem_append_left _ (List.mem_of_getElem? (i := 231) rfl))) rfl
theorem zl_Reader_refuse : Cond.selects "ThinkNumber$Reader" K_Reader_refuse.1 K_Reader_refuse.1 ∈ tb := tb_sel (List.mem_of_getElem? (i := 4) (by decide +kernel)) rfl
theorem zs_Reader_readHide : Cond.instanceMethod K_Reader_readHide.1 ∈ tb := tb_in (List.mem_append_right _ (List.mem_append_left _ (List.mem_of_getElem? (i := 235) rfl))) rfl
theorem zl_Reader_readHide : Cond.selects "ThinkNumber$Reader" K_Reader_readHide.1 K_Reader_readHide.1 ∈ tb := tb_sel (List.mem_of_getElem? (i := 5) (by decide +kernel)) rfl
theorem zs_Reader_letterOfWord : Cond.instanceMethod K_Reader_letterOfWord.1 ∈ tb := tb_in (List.mem_append_right _ (List.mem_append_left _ (List.mem_of_getElem? (i := 239) rfl))) rfl
theorem zl_Reader_letterOfWord : Cond.selects "ThinkNumber$Reader" K_Reader_letterOfWord.1 K_Reader_letterOfWord.1 ∈ tb := tb_sel (List.mem_of_getElem? (i := 6) (by decide +kernel)) rfl
theorem zs_A_isLetter : Cond.static K_A_isLetter.1 ∈ tb := tb_in (List.mem_append_right _ (List.mem_append_right _ (List.mem_append_left _ (List.mem_of_getElem? (i := 2) rfl)))) rfl
theorem zs_Table_isHidden : Cond.instanceMethod K_Table_isHidden.1 ∈ tb := tb_in (List.mem_append_right _ (List.mem_append_right _ (List.mem_append_left _ (List.mem_of_getElem? (i := 5) rfl)))) rfl
theorem zl_Table_isHidden : Cond.selects "ThinkNumber$Table" K_Table_isHidden.1 K_Table_isHidden.1 ∈ tb := tb_in (List.mem_append_right _ (List.mem_append_right _ (List.mem_append_left _ (List.mem_of_getElem? (i := 6) rfl)))) rfl
theorem zs_Reader_readWord : Cond.instanceMethod K_Reader_readWord.1 ∈ tb := tb_in (List.mem_append_right _ (List.mem_append_right _ (List.mem_append_left _ (List.mem_of_getElem? (i := 12) rfl)))) rfl
theorem zl_Reader_readWord : Cond.selects "ThinkNumber$Reader" K_Reader_readWord.1 K_Reader_readWord.1 ∈ tb := tb_sel (List.mem_of_getElem? (i := 7) (by decide +kernel)) rfl
theorem zs_Reader_readNumber : Cond.instanceMethod K_Reader_readNumber.1 ∈ tb := tb_in (List.mem_append_right _ (List.mem_append_right _ (List.mem_append_left _ (List.mem_of_getElem? (i := 16) rfl)))) rfl
theorem zl_Reader_readNumber : Cond.selects "ThinkNumber$Reader" K_Reader_readNumber.1 K_Reader_readNumber.1 ∈ tb := tb_sel (List.mem_of_getElem? (i := 8) (by decide +kernel)) rfl
theorem zs_Reader_numberOfDigits : Cond.instanceMethod K_Reader_numberOfDigits.1 ∈ tb := tb_in (List.mem_append_right _ (List.mem_append_right _ (List.mem_append_left _ (List.mem_of_getElem? (i := 20) rfl)))) rfl
theorem zl_Reader_numberOfDigits : Cond.selects "ThinkNumber$Reader" K_Reader_numberOfDigits.1 K_Reader_numberOfDigits.1 ∈ tb := tb_sel (List.mem_of_getElem? (i := 9) (by decide +kernel)) rfl
theorem zs_Reader_readSemicolon : Cond.instanceMethod K_Reader_readSemicolon.1 ∈ tb := tb_in (List.mem_append_right _ (List.mem_append_right _ (List.mem_append_left _ (List.mem_of_getElem? (i := 25) rfl)))) rfl
theorem zl_Reader_readSemicolon : Cond.selects "ThinkNumber$Reader" K_Reader_readSemicolon.1 K_Reader_readSemicolon.1 ∈ tb := tb_sel (List.mem_of_getElem? (i := 10) (by decide +kernel)) rfl
theorem zs_Reader_readArgument : Cond.instanceMethod K_Reader_readArgument.1 ∈ tb := tb_in (List.mem_append_right _ (List.mem_append_right _ (List.mem_append_left _ (List.mem_of_getElem? (i := 29) rfl)))) rfl
theorem zl_Reader_readArgument : Cond.selects "ThinkNumber$Reader" K_Reader_readArgument.1 K_Reader_readArgument.1 ∈ tb := tb_sel (List.mem_of_getElem? (i := 11) (by decide +kernel)) rfl
theorem zs_Reader_readX : Cond.instanceMethod K_Reader_readX.1 ∈ tb := tb_in (List.mem_append_right _ (List.mem_append_right _ (List.mem_append_left _ (List.mem_of_getElem? (i := 33) rfl)))) rfl
theorem zl_Reader_readX : Cond.selects "ThinkNumber$Reader" K_Reader_readX.1 K_Reader_readX.1 ∈ tb := tb_sel (List.mem_of_getElem? (i := 12) (by decide +kernel)) rfl
theorem zs_Orders_add : Cond.instanceMethod K_Orders_add.1 ∈ tb := tb_in (List.mem_append_right _ (List.mem_append_right _ (List.mem_append_left _ (List.mem_of_getElem? (i := 36) rfl)))) rfl
theorem zl_Orders_add : Cond.selects "ThinkNumber$Orders" K_Orders_add.1 K_Orders_add.1 ∈ tb := tb_in (List.mem_append_right _ (List.mem_append_right _ (List.mem_append_left _ (List.mem_of_getElem? (i := 37) rfl)))) rfl
theorem zs_A_fault : Cond.instanceMethod K_A_fault.1 ∈ tb := tb_in (List.mem_append_right _ (List.mem_append_right _ (List.mem_append_left _ (List.mem_of_getElem? (i := 40) rfl)))) rfl
theorem zl_A_fault : Cond.selects "ThinkNumber" K_A_fault.1 K_A_fault.1 ∈ tb := tb_in (List.mem_append_right _ (List.mem_append_right _ (List.mem_append_left _ (List.mem_of_getElem? (i := 41) rfl)))) rfl
theorem zs_A_order : Cond.instanceMethod K_A_order.1 ∈ tb := tb_in (List.mem_append_right _ (List.mem_append_right _ (List.mem_append_left _ (List.mem_of_getElem? (i := 44) rfl)))) rfl
theorem zl_A_order : Cond.selects "ThinkNumber" K_A_order.1 K_A_order.1 ∈ tb := tb_in (List.mem_append_right _ (List.mem_append_right _ (List.mem_append_left _ (List.mem_of_getElem? (i := 45) rfl)))) rfl
theorem zs_A_find : Cond.instanceMethod K_A_find.1 ∈ tb := tb_in (List.mem_append_right _ (List.mem_append_right _ (List.mem_append_left _ (List.mem_of_getElem? (i := 49) rfl)))) rfl
theorem zl_A_find : Cond.selects "ThinkNumber" K_A_find.1 K_A_find.1 ∈ tb := tb_sel (List.mem_of_getElem? (i := 13) (by decide +kernel)) rfl
theorem zs_Orders_has : Cond.instanceMethod K_Orders_has.1 ∈ tb := tb_in (List.mem_append_right _ (List.mem_append_right _ (List.mem_append_left _ (List.mem_of_getElem? (i := 52) rfl)))) rfl
theorem zl_Orders_has : Cond.selects "ThinkNumber$Orders" K_Orders_has.1 K_Orders_has.1 ∈ tb := tb_in (List.mem_append_right _ (List.mem_append_right _ (List.mem_append_left _ (List.mem_of_getElem? (i := 53) rfl)))) rfl
theorem zs_A_span : Cond.instanceMethod K_A_span.1 ∈ tb := tb_in (List.mem_append_right _ (List.mem_append_right _ (List.mem_append_left _ (List.mem_of_getElem? (i := 56) rfl)))) rfl
theorem zl_A_span : Cond.selects "ThinkNumber" K_A_span.1 K_A_span.1 ∈ tb := tb_in (List.mem_append_right _ (List.mem_append_right _ (List.mem_append_left _ (List.mem_of_getElem? (i := 57) rfl)))) rfl
theorem zs_A_comes : Cond.instanceMethod K_A_comes.1 ∈ tb := tb_in (List.mem_append_right _ (List.mem_append_right _ (List.mem_append_left _ (List.mem_of_getElem? (i := 61) rfl)))) rfl
theorem zl_A_comes : Cond.selects "ThinkNumber" K_A_comes.1 K_A_comes.1 ∈ tb := tb_in (List.mem_append_right _ (List.mem_append_right _ (List.mem_append_left _ (List.mem_of_getElem? (i := 62) rfl)))) rfl
theorem zs_Table_run : Cond.instanceMethod K_Table_run.1 ∈ tb := tb_in (List.mem_append_right _ (List.mem_append_right _ (List.mem_append_left _ (List.mem_of_getElem? (i := 66) rfl)))) rfl
theorem zl_Table_run : Cond.selects "ThinkNumber$Table" K_Table_run.1 K_Table_run.1 ∈ tb := tb_in (List.mem_append_right _ (List.mem_append_right _ (List.mem_append_left _ (List.mem_of_getElem? (i := 67) rfl)))) rfl
theorem zs_Table_begin : Cond.instanceMethod K_Table_begin.1 ∈ tb := tb_in (List.mem_append_right _ (List.mem_append_right _ (List.mem_append_left _ (List.mem_of_getElem? (i := 73) rfl)))) rfl
theorem zl_Table_begin : Cond.selects "ThinkNumber$Table" K_Table_begin.1 K_Table_begin.1 ∈ tb := tb_in (List.mem_append_right _ (List.mem_append_right _ (List.mem_append_left _ (List.mem_of_getElem? (i := 74) rfl)))) rfl
theorem zs_Value_setWhole : Cond.instanceMethod K_Value_setWhole.1 ∈ tb := tb_in (List.mem_append_right _ (List.mem_append_right _ (List.mem_append_left _ (List.mem_of_getElem? (i := 78) rfl)))) rfl
theorem zl_Value_setWhole : Cond.selects "ThinkNumber$Value" K_Value_setWhole.1 K_Value_setWhole.1 ∈ tb := tb_in (List.mem_append_right _ (List.mem_append_right _ (List.mem_append_left _ (List.mem_of_getElem? (i := 79) rfl)))) rfl
theorem zs_Orders_amount : Cond.instanceMethod K_Orders_amount.1 ∈ tb := tb_in (List.mem_append_right _ (List.mem_append_right _ (List.mem_append_left _ (List.mem_of_getElem? (i := 82) rfl)))) rfl
theorem zl_Orders_amount : Cond.selects "ThinkNumber$Orders" K_Orders_amount.1 K_Orders_amount.1 ∈ tb := tb_in (List.mem_append_right _ (List.mem_append_right _ (List.mem_append_left _ (List.mem_of_getElem? (i := 83) rfl)))) rfl
theorem zs_Value_obey : Cond.instanceMethod K_Value_obey.1 ∈ tb := tb_in (List.mem_append_right _ (List.mem_append_right _ (List.mem_append_left _ (List.mem_of_getElem? (i := 87) rfl)))) rfl
theorem zl_Value_obey : Cond.selects "ThinkNumber$Value" K_Value_obey.1 K_Value_obey.1 ∈ tb := tb_in (List.mem_append_right _ (List.mem_append_right _ (List.mem_append_left _ (List.mem_of_getElem? (i := 88) rfl)))) rfl
theorem zs_Value_put : Cond.instanceMethod K_Value_put.1 ∈ tb := tb_in (List.mem_append_right _ (List.mem_append_right _ (List.mem_append_left _ (List.mem_of_getElem? (i := 91) rfl)))) rfl
theorem zl_Value_put : Cond.selects "ThinkNumber$Value" K_Value_put.1 K_Value_put.1 ∈ tb := tb_in (List.mem_append_right _ (List.mem_append_right _ (List.mem_append_left _ (List.mem_of_getElem? (i := 92) rfl)))) rfl
theorem zs_A_commonMeasure : Cond.static K_A_commonMeasure.1 ∈ tb := tb_in (List.mem_append_right _ (List.mem_append_right _ (List.mem_append_left _ (List.mem_of_getElem? (i := 95) rfl)))) rfl
theorem zs_A_figuresOf : Cond.static K_A_figuresOf.1 ∈ tb := tb_in (List.mem_append_right _ (List.mem_append_right _ (List.mem_append_left _ (List.mem_of_getElem? (i := 107) rfl)))) rfl
theorem zs_Value_turned : Cond.instanceMethod K_Value_turned.1 ∈ tb := tb_in (List.mem_append_right _ (List.mem_append_right _ (List.mem_append_left _ (List.mem_of_getElem? (i := 112) rfl)))) rfl
theorem zl_Value_turned : Cond.selects "ThinkNumber$Value" K_Value_turned.1 K_Value_turned.1 ∈ tb := tb_sel (List.mem_of_getElem? (i := 14) (by decide +kernel)) rfl
theorem zs_Value_across : Cond.instanceMethod K_Value_across.1 ∈ tb := tb_in (List.mem_append_right _ (List.mem_append_right _ (List.mem_append_left _ (List.mem_of_getElem? (i := 117) rfl)))) rfl
theorem zl_Value_across : Cond.selects "ThinkNumber$Value" K_Value_across.1 K_Value_across.1 ∈ tb := tb_sel (List.mem_of_getElem? (i := 15) (by decide +kernel)) rfl
theorem zs_Value_without : Cond.instanceMethod K_Value_without.1 ∈ tb := tb_in (List.mem_append_right _ (List.mem_append_right _ (List.mem_append_left _ (List.mem_of_getElem? (i := 121) rfl)))) rfl
theorem zl_Value_without : Cond.selects "ThinkNumber$Value" K_Value_without.1 K_Value_without.1 ∈ tb := tb_sel (List.mem_of_getElem? (i := 16) (by decide +kernel)) rfl
theorem zs_Value_part : Cond.instanceMethod K_Value_part.1 ∈ tb := tb_in (List.mem_append_right _ (List.mem_append_right _ (List.mem_append_left _ (List.mem_of_getElem? (i := 124) rfl)))) rfl
theorem zl_Value_part : Cond.selects "ThinkNumber$Value" K_Value_part.1 K_Value_part.1 ∈ tb := tb_in (List.mem_append_right _ (List.mem_append_right _ (List.mem_append_left _ (List.mem_of_getElem? (i := 125) rfl)))) rfl
theorem zs_A_fails : Cond.instanceMethod K_A_fails.1 ∈ tb := tb_in (List.mem_append_right _ (List.mem_append_right _ (List.mem_append_left _ (List.mem_of_getElem? (i := 128) rfl)))) rfl
theorem zl_A_fails : Cond.selects "ThinkNumber" K_A_fails.1 K_A_fails.1 ∈ tb := tb_in (List.mem_append_right _ (List.mem_append_right _ (List.mem_append_left _ (List.mem_of_getElem? (i := 129) rfl)))) rfl
theorem zs_A_said : Cond.instanceMethod K_A_said.1 ∈ tb := tb_in (List.mem_append_right _ (List.mem_append_right _ (List.mem_append_left _ (List.mem_of_getElem? (i := 132) rfl)))) rfl
theorem zl_A_said : Cond.selects "ThinkNumber" K_A_said.1 K_A_said.1 ∈ tb := tb_in (List.mem_append_right _ (List.mem_append_right _ (List.mem_append_left _ (List.mem_of_getElem? (i := 133) rfl)))) rfl
theorem zs_A_claim : Cond.instanceMethod K_A_claim.1 ∈ tb := tb_in (List.mem_append_right _ (List.mem_append_right _ (List.mem_append_left _ (List.mem_of_getElem? (i := 139) rfl)))) rfl
theorem zl_A_claim : Cond.selects "ThinkNumber" K_A_claim.1 K_A_claim.1 ∈ tb := tb_in (List.mem_append_right _ (List.mem_append_right _ (List.mem_append_left _ (List.mem_of_getElem? (i := 140) rfl)))) rfl
theorem zs_Values_tell : Cond.instanceMethod K_Values_tell.1 ∈ tb := tb_in (List.mem_append_right _ (List.mem_append_right _ (List.mem_append_left _ (List.mem_of_getElem? (i := 143) rfl)))) rfl
theorem zl_Values_tell : Cond.selects "ThinkNumber$Values" K_Values_tell.1 K_Values_tell.1 ∈ tb := tb_in (List.mem_append_right _ (List.mem_append_right _ (List.mem_append_left _ (List.mem_of_getElem? (i := 144) rfl)))) rfl
theorem zs_A_isTold : Cond.static K_A_isTold.1 ∈ tb := tb_in (List.mem_append_right _ (List.mem_append_right _ (List.mem_append_left _ (List.mem_of_getElem? (i := 147) rfl)))) rfl
theorem zs_Values_append : Cond.instanceMethod K_Values_append.1 ∈ tb := tb_in (List.mem_append_right _ (List.mem_append_right _ (List.mem_append_left _ (List.mem_of_getElem? (i := 154) rfl)))) rfl
theorem zl_Values_append : Cond.selects "ThinkNumber$Values" K_Values_append.1 K_Values_append.1 ∈ tb := tb_in (List.mem_append_right _ (List.mem_append_right _ (List.mem_append_left _ (List.mem_of_getElem? (i := 155) rfl)))) rfl
theorem zs_A_judge : Cond.instanceMethod K_A_judge.1 ∈ tb := tb_in (List.mem_append_right _ (List.mem_append_right _ (List.mem_append_left _ (List.mem_of_getElem? (i := 158) rfl)))) rfl
theorem zl_A_judge : Cond.selects "ThinkNumber" K_A_judge.1 K_A_judge.1 ∈ tb := tb_in (List.mem_append_right _ (List.mem_append_right _ (List.mem_append_left _ (List.mem_of_getElem? (i := 159) rfl)))) rfl
theorem zs_Values_holds : Cond.instanceMethod K_Values_holds.1 ∈ tb := tb_in (List.mem_append_right _ (List.mem_append_right _ (List.mem_append_left _ (List.mem_of_getElem? (i := 163) rfl)))) rfl
theorem zl_Values_holds : Cond.selects "ThinkNumber$Values" K_Values_holds.1 K_Values_holds.1 ∈ tb := tb_in (List.mem_append_right _ (List.mem_append_right _ (List.mem_append_left _ (List.mem_of_getElem? (i := 164) rfl)))) rfl
theorem zs_Value_is : Cond.instanceMethod K_Value_is.1 ∈ tb := tb_in (List.mem_append_right _ (List.mem_append_right _ (List.mem_append_left _ (List.mem_of_getElem? (i := 167) rfl)))) rfl
theorem zl_Value_is : Cond.selects "ThinkNumber$Value" K_Value_is.1 K_Value_is.1 ∈ tb := tb_in (List.mem_append_right _ (List.mem_append_right _ (List.mem_append_left _ (List.mem_of_getElem? (i := 168) rfl)))) rfl
theorem zs_A_same : Cond.instanceMethod K_A_same.1 ∈ tb := tb_in (List.mem_append_right _ (List.mem_append_right _ (List.mem_append_left _ (List.mem_of_getElem? (i := 171) rfl)))) rfl
theorem zl_A_same : Cond.selects "ThinkNumber" K_A_same.1 K_A_same.1 ∈ tb := tb_in (List.mem_append_right _ (List.mem_append_right _ (List.mem_append_left _ (List.mem_of_getElem? (i := 172) rfl)))) rfl
theorem zs_Table_countAll : Cond.instanceMethod K_Table_countAll.1 ∈ tb := tb_in (List.mem_append_right _ (List.mem_append_right _ (List.mem_append_left _ (List.mem_of_getElem? (i := 175) rfl)))) rfl
theorem zl_Table_countAll : Cond.selects "ThinkNumber$Table" K_Table_countAll.1 K_Table_countAll.1 ∈ tb := tb_in (List.mem_append_right _ (List.mem_append_right _ (List.mem_append_left _ (List.mem_of_getElem? (i := 176) rfl)))) rfl
theorem zs_A_findUnlike : Cond.instanceMethod K_A_findUnlike.1 ∈ tb := tb_in (List.mem_append_right _ (List.mem_append_right _ (List.mem_append_left _ (List.mem_of_getElem? (i := 181) rfl)))) rfl
theorem zl_A_findUnlike : Cond.selects "ThinkNumber" K_A_findUnlike.1 K_A_findUnlike.1 ∈ tb := tb_sel (List.mem_of_getElem? (i := 17) (by decide +kernel)) rfl
theorem zs_Table_firstOfAll : Cond.instanceMethod K_Table_firstOfAll.1 ∈ tb := tb_in (List.mem_append_right _ (List.mem_append_right _ (List.mem_append_left _ (List.mem_of_getElem? (i := 184) rfl)))) rfl
theorem zl_Table_firstOfAll : Cond.selects "ThinkNumber$Table" K_Table_firstOfAll.1 K_Table_firstOfAll.1 ∈ tb := tb_in (List.mem_append_right _ (List.mem_append_right _ (List.mem_append_left _ (List.mem_of_getElem? (i := 185) rfl)))) rfl
theorem zs_Table_comesToEnd : Cond.instanceMethod K_Table_comesToEnd.1 ∈ tb := tb_in (List.mem_append_right _ (List.mem_append_right _ (List.mem_append_left _ (List.mem_of_getElem? (i := 191) rfl)))) rfl
theorem zl_Table_comesToEnd : Cond.selects "ThinkNumber$Table" K_Table_comesToEnd.1 K_Table_comesToEnd.1 ∈ tb := tb_in (List.mem_append_right _ (List.mem_append_right _ (List.mem_append_left _ (List.mem_of_getElem? (i := 192) rfl)))) rfl
theorem zs_Value_copyFrom : Cond.instanceMethod K_Value_copyFrom.1 ∈ tb := tb_in (List.mem_append_right _ (List.mem_append_right _ (List.mem_append_left _ (List.mem_of_getElem? (i := 196) rfl)))) rfl
theorem zl_Value_copyFrom : Cond.selects "ThinkNumber$Value" K_Value_copyFrom.1 K_Value_copyFrom.1 ∈ tb := tb_in (List.mem_append_right _ (List.mem_append_right _ (List.mem_append_left _ (List.mem_of_getElem? (i := 197) rfl)))) rfl
theorem zs_Table_nextOfAll : Cond.instanceMethod K_Table_nextOfAll.1 ∈ tb := tb_in (List.mem_append_right _ (List.mem_append_right _ (List.mem_append_left _ (List.mem_of_getElem? (i := 201) rfl)))) rfl
theorem zl_Table_nextOfAll : Cond.selects "ThinkNumber$Table" K_Table_nextOfAll.1 K_Table_nextOfAll.1 ∈ tb := tb_in (List.mem_append_right _ (List.mem_append_right _ (List.mem_append_left _ (List.mem_of_getElem? (i := 202) rfl)))) rfl
theorem zs_A_unlike : Cond.instanceMethod K_A_unlike.1 ∈ tb := tb_in (List.mem_append_right _ (List.mem_append_right _ (List.mem_append_left _ (List.mem_of_getElem? (i := 205) rfl)))) rfl
theorem zl_A_unlike : Cond.selects "ThinkNumber" K_A_unlike.1 K_A_unlike.1 ∈ tb := tb_in (List.mem_append_right _ (List.mem_append_right _ (List.mem_append_left _ (List.mem_of_getElem? (i := 206) rfl)))) rfl
theorem zs_A_proof : Cond.instanceMethod K_A_proof.1 ∈ tb := tb_in (List.mem_append_right _ (List.mem_append_right _ (List.mem_append_left _ (List.mem_of_getElem? (i := 209) rfl)))) rfl
theorem zl_A_proof : Cond.selects "ThinkNumber" K_A_proof.1 K_A_proof.1 ∈ tb := tb_in (List.mem_append_right _ (List.mem_append_right _ (List.mem_append_left _ (List.mem_of_getElem? (i := 210) rfl)))) rfl
theorem zs_Sum_prove : Cond.instanceMethod K_Sum_prove.1 ∈ tb := tb_in (List.mem_append_right _ (List.mem_append_right _ (List.mem_append_left _ (List.mem_of_getElem? (i := 213) rfl)))) rfl
theorem zl_Sum_prove : Cond.selects "ThinkNumber$Sum" K_Sum_prove.1 K_Sum_prove.1 ∈ tb := tb_in (List.mem_append_right _ (List.mem_append_right _ (List.mem_append_left _ (List.mem_of_getElem? (i := 214) rfl)))) rfl
theorem zs_JArr_fillJ : Cond.static K_JArr_fillJ.1 ∈ tb := tb_in (List.mem_append_right _ (List.mem_append_right _ (List.mem_append_left _ (List.mem_of_getElem? (i := 217) rfl)))) rfl
theorem zs_Sum_follow : Cond.instanceMethod K_Sum_follow.1 ∈ tb := tb_in (List.mem_append_right _ (List.mem_append_right _ (List.mem_append_left _ (List.mem_of_getElem? (i := 222) rfl)))) rfl
theorem zl_Sum_follow : Cond.selects "ThinkNumber$Sum" K_Sum_follow.1 K_Sum_follow.1 ∈ tb := tb_sel (List.mem_of_getElem? (i := 18) (by decide +kernel)) rfl
theorem zs_Sum_addPart : Cond.instanceMethod K_Sum_addPart.1 ∈ tb := tb_in (List.mem_append_right _ (List.mem_append_right _ (List.mem_append_left _ (List.mem_of_getElem? (i := 226) rfl)))) rfl
theorem zl_Sum_addPart : Cond.selects "ThinkNumber$Sum" K_Sum_addPart.1 K_Sum_addPart.1 ∈ tb := tb_sel (List.mem_of_getElem? (i := 19) (by decide +kernel)) rfl
theorem zs_Sum_multiply : Cond.instanceMethod K_Sum_multiply.1 ∈ tb := tb_in (List.mem_append_right _ (List.mem_append_right _ (List.mem_append_left _ (List.mem_of_getElem? (i := 231) rfl)))) rfl
theorem zl_Sum_multiply : Cond.selects "ThinkNumber$Sum" K_Sum_multiply.1 K_Sum_multiply.1 ∈ tb := tb_sel (List.mem_of_getElem? (i := 20) (by decide +kernel)) rfl
theorem zs_Sum_multiplyByLetter : Cond.instanceMethod K_Sum_multiplyByLetter.1 ∈ tb := tb_in (List.mem_append_right _ (List.mem_append_right _ (List.mem_append_left _ (List.mem_of_getElem? (i := 235) rfl)))) rfl
theorem zl_Sum_multiplyByLetter : Cond.selects "ThinkNumber$Sum" K_Sum_multiplyByLetter.1 K_Sum_multiplyByLetter.1 ∈ tb := tb_sel (List.mem_of_getElem? (i := 21) (by decide +kernel)) rfl
theorem zs_Sum_putInLowestTerms : Cond.instanceMethod K_Sum_putInLowestTerms.1 ∈ tb := tb_in (List.mem_append_right _ (List.mem_append_right _ (List.mem_append_left _ (List.mem_of_getElem? (i := 239) rfl)))) rfl
theorem zl_Sum_putInLowestTerms : Cond.selects "ThinkNumber$Sum" K_Sum_putInLowestTerms.1 K_Sum_putInLowestTerms.1 ∈ tb := tb_sel (List.mem_of_getElem? (i := 22) (by decide +kernel)) rfl
theorem zs_A_hear : Cond.instanceMethod K_A_hear.1 ∈ tb := tb_in (List.mem_append_right _ (List.mem_append_right _ (List.mem_append_right _ (List.mem_append_left _ (List.mem_of_getElem? (i := 6) rfl))))) rfl
theorem zl_A_hear : Cond.selects "ThinkNumber" K_A_hear.1 K_A_hear.1 ∈ tb := tb_in (List.mem_append_right _ (List.mem_append_right _ (List.mem_append_right _ (List.mem_append_left _ (List.mem_of_getElem? (i := 7) rfl))))) rfl
theorem zs_A_fits : Cond.instanceMethod K_A_fits.1 ∈ tb := tb_in (List.mem_append_right _ (List.mem_append_right _ (List.mem_append_right _ (List.mem_append_left _ (List.mem_of_getElem? (i := 10) rfl))))) rfl
theorem zl_A_fits : Cond.selects "ThinkNumber" K_A_fits.1 K_A_fits.1 ∈ tb := tb_in (List.mem_append_right _ (List.mem_append_right _ (List.mem_append_right _ (List.mem_append_left _ (List.mem_of_getElem? (i := 11) rfl))))) rfl
theorem zs_Tally_clear : Cond.instanceMethod K_Tally_clear.1 ∈ tb := tb_in (List.mem_append_right _ (List.mem_append_right _ (List.mem_append_right _ (List.mem_append_left _ (List.mem_of_getElem? (i := 14) rfl))))) rfl
theorem zl_Tally_clear : Cond.selects "ThinkNumber$Tally" K_Tally_clear.1 K_Tally_clear.1 ∈ tb := tb_in (List.mem_append_right _ (List.mem_append_right _ (List.mem_append_right _ (List.mem_append_left _ (List.mem_of_getElem? (i := 15) rfl))))) rfl
theorem zs_Table_saysJust : Cond.instanceMethod K_Table_saysJust.1 ∈ tb := tb_in (List.mem_append_right _ (List.mem_append_right _ (List.mem_append_right _ (List.mem_append_left _ (List.mem_of_getElem? (i := 19) rfl))))) rfl
theorem zl_Table_saysJust : Cond.selects "ThinkNumber$Table" K_Table_saysJust.1 K_Table_saysJust.1 ∈ tb := tb_in (List.mem_append_right _ (List.mem_append_right _ (List.mem_append_right _ (List.mem_append_left _ (List.mem_of_getElem? (i := 20) rfl))))) rfl
theorem zs_Tally_note : Cond.instanceMethod K_Tally_note.1 ∈ tb := tb_in (List.mem_append_right _ (List.mem_append_right _ (List.mem_append_right _ (List.mem_append_left _ (List.mem_of_getElem? (i := 24) rfl))))) rfl
theorem zl_Tally_note : Cond.selects "ThinkNumber$Tally" K_Tally_note.1 K_Tally_note.1 ∈ tb := tb_in (List.mem_append_right _ (List.mem_append_right _ (List.mem_append_right _ (List.mem_append_left _ (List.mem_of_getElem? (i := 25) rfl))))) rfl
theorem zs_Tally_pick : Cond.instanceMethod K_Tally_pick.1 ∈ tb := tb_in (List.mem_append_right _ (List.mem_append_right _ (List.mem_append_right _ (List.mem_append_left _ (List.mem_of_getElem? (i := 31) rfl))))) rfl
theorem zl_Tally_pick : Cond.selects "ThinkNumber$Tally" K_Tally_pick.1 K_Tally_pick.1 ∈ tb := tb_in (List.mem_append_right _ (List.mem_append_right _ (List.mem_append_right _ (List.mem_append_left _ (List.mem_of_getElem? (i := 32) rfl))))) rfl
theorem zs_A_more : Cond.instanceMethod K_A_more.1 ∈ tb := tb_in (List.mem_append_right _ (List.mem_append_right _ (List.mem_append_right _ (List.mem_append_left _ (List.mem_of_getElem? (i := 35) rfl))))) rfl
theorem zl_A_more : Cond.selects "ThinkNumber" K_A_more.1 K_A_more.1 ∈ tb := tb_in (List.mem_append_right _ (List.mem_append_right _ (List.mem_append_right _ (List.mem_append_left _ (List.mem_of_getElem? (i := 36) rfl))))) rfl
theorem zs_Parting_lowestTelling : Cond.instanceMethod K_Parting_lowestTelling.1 ∈ tb := tb_in (List.mem_append_right _ (List.mem_append_right _ (List.mem_append_right _ (List.mem_append_left _ (List.mem_of_getElem? (i := 40) rfl))))) rfl
theorem zl_Parting_lowestTelling : Cond.selects "ThinkNumber$Parting" K_Parting_lowestTelling.1 K_Parting_lowestTelling.1 ∈ tb := tb_in (List.mem_append_right _ (List.mem_append_right _ (List.mem_append_right _ (List.mem_append_left _ (List.mem_of_getElem? (i := 41) rfl))))) rfl
theorem zs_Parting_groupBySaid : Cond.instanceMethod K_Parting_groupBySaid.1 ∈ tb := tb_in (List.mem_append_right _ (List.mem_append_right _ (List.mem_append_right _ (List.mem_append_left _ (List.mem_of_getElem? (i := 46) rfl))))) rfl
theorem zl_Parting_groupBySaid : Cond.selects "ThinkNumber$Parting" K_Parting_groupBySaid.1 K_Parting_groupBySaid.1 ∈ tb := tb_sel (List.mem_of_getElem? (i := 23) (by decide +kernel)) rfl
theorem zs_Parting_startAll : Cond.instanceMethod K_Parting_startAll.1 ∈ tb := tb_in (List.mem_append_right _ (List.mem_append_right _ (List.mem_append_right _ (List.mem_append_left _ (List.mem_of_getElem? (i := 51) rfl))))) rfl
theorem zl_Parting_startAll : Cond.selects "ThinkNumber$Parting" K_Parting_startAll.1 K_Parting_startAll.1 ∈ tb := tb_sel (List.mem_of_getElem? (i := 24) (by decide +kernel)) rfl
theorem zs_Parting_stepAll : Cond.instanceMethod K_Parting_stepAll.1 ∈ tb := tb_in (List.mem_append_right _ (List.mem_append_right _ (List.mem_append_right _ (List.mem_append_left _ (List.mem_of_getElem? (i := 58) rfl))))) rfl
theorem zl_Parting_stepAll : Cond.selects "ThinkNumber$Parting" K_Parting_stepAll.1 K_Parting_stepAll.1 ∈ tb := tb_sel (List.mem_of_getElem? (i := 25) (by decide +kernel)) rfl
theorem zs_Parting_countGroups : Cond.instanceMethod K_Parting_countGroups.1 ∈ tb := tb_in (List.mem_append_right _ (List.mem_append_right _ (List.mem_append_right _ (List.mem_append_left _ (List.mem_of_getElem? (i := 64) rfl))))) rfl
theorem zl_Parting_countGroups : Cond.selects "ThinkNumber$Parting" K_Parting_countGroups.1 K_Parting_countGroups.1 ∈ tb := tb_sel (List.mem_of_getElem? (i := 26) (by decide +kernel)) rfl
theorem zs_Parting_seat : Cond.instanceMethod K_Parting_seat.1 ∈ tb := tb_in (List.mem_append_right _ (List.mem_append_right _ (List.mem_append_right _ (List.mem_append_left _ (List.mem_of_getElem? (i := 68) rfl))))) rfl
theorem zl_Parting_seat : Cond.selects "ThinkNumber$Parting" K_Parting_seat.1 K_Parting_seat.1 ∈ tb := tb_sel (List.mem_of_getElem? (i := 27) (by decide +kernel)) rfl
theorem zs_A_kit : Cond.instanceMethod K_A_kit.1 ∈ tb := tb_in (List.mem_append_right _ (List.mem_append_right _ (List.mem_append_right _ (List.mem_append_left _ (List.mem_of_getElem? (i := 77) rfl))))) rfl
theorem zl_A_kit : Cond.selects "ThinkNumber" K_A_kit.1 K_A_kit.1 ∈ tb := tb_in (List.mem_append_right _ (List.mem_append_right _ (List.mem_append_right _ (List.mem_append_left _ (List.mem_of_getElem? (i := 78) rfl))))) rfl
theorem zs_A_made : Cond.instanceMethod K_A_made.1 ∈ tb := tb_in (List.mem_append_right _ (List.mem_append_right _ (List.mem_append_right _ (List.mem_append_left _ (List.mem_of_getElem? (i := 82) rfl))))) rfl
theorem zl_A_made : Cond.selects "ThinkNumber" K_A_made.1 K_A_made.1 ∈ tb := tb_in (List.mem_append_right _ (List.mem_append_right _ (List.mem_append_right _ (List.mem_append_left _ (List.mem_of_getElem? (i := 83) rfl))))) rfl
theorem zs_Maker_fewest : Cond.instanceMethod K_Maker_fewest.1 ∈ tb := tb_in (List.mem_append_right _ (List.mem_append_right _ (List.mem_append_right _ (List.mem_append_left _ (List.mem_of_getElem? (i := 86) rfl))))) rfl
theorem zl_Maker_fewest : Cond.selects "ThinkNumber$Maker" K_Maker_fewest.1 K_Maker_fewest.1 ∈ tb := tb_in (List.mem_append_right _ (List.mem_append_right _ (List.mem_append_right _ (List.mem_append_left _ (List.mem_of_getElem? (i := 87) rfl))))) rfl
theorem zs_Maker_reaches : Cond.instanceMethod K_Maker_reaches.1 ∈ tb := tb_in (List.mem_append_right _ (List.mem_append_right _ (List.mem_append_right _ (List.mem_append_left _ (List.mem_of_getElem? (i := 92) rfl))))) rfl
theorem zl_Maker_reaches : Cond.selects "ThinkNumber$Maker" K_Maker_reaches.1 K_Maker_reaches.1 ∈ tb := tb_sel (List.mem_of_getElem? (i := 28) (by decide +kernel)) rfl
theorem zs_Maker_spread : Cond.instanceMethod K_Maker_spread.1 ∈ tb := tb_in (List.mem_append_right _ (List.mem_append_right _ (List.mem_append_right _ (List.mem_append_left _ (List.mem_of_getElem? (i := 96) rfl))))) rfl
theorem zl_Maker_spread : Cond.selects "ThinkNumber$Maker" K_Maker_spread.1 K_Maker_spread.1 ∈ tb := tb_sel (List.mem_of_getElem? (i := 29) (by decide +kernel)) rfl
theorem zs_A_slip : Cond.instanceMethod K_A_slip.1 ∈ tb := tb_in (List.mem_append_right _ (List.mem_append_right _ (List.mem_append_right _ (List.mem_append_left _ (List.mem_of_getElem? (i := 102) rfl))))) rfl
theorem zl_A_slip : Cond.selects "ThinkNumber" K_A_slip.1 K_A_slip.1 ∈ tb := tb_in (List.mem_append_right _ (List.mem_append_right _ (List.mem_append_right _ (List.mem_append_left _ (List.mem_of_getElem? (i := 103) rfl))))) rfl
theorem zs_Table_runWithSlip : Cond.instanceMethod K_Table_runWithSlip.1 ∈ tb := tb_in (List.mem_append_right _ (List.mem_append_right _ (List.mem_append_right _ (List.mem_append_left _ (List.mem_of_getElem? (i := 108) rfl))))) rfl
theorem zl_Table_runWithSlip : Cond.selects "ThinkNumber$Table" K_Table_runWithSlip.1 K_Table_runWithSlip.1 ∈ tb := tb_in (List.mem_append_right _ (List.mem_append_right _ (List.mem_append_right _ (List.mem_append_left _ (List.mem_of_getElem? (i := 109) rfl))))) rfl
theorem zs_Table_slipAt : Cond.static K_Table_slipAt.1 ∈ tb := tb_in (List.mem_append_right _ (List.mem_append_right _ (List.mem_append_right _ (List.mem_append_left _ (List.mem_of_getElem? (i := 112) rfl))))) rfl
theorem zs_A_ask : Cond.instanceMethod K_A_ask.1 ∈ tb := tb_in (List.mem_append_right _ (List.mem_append_right _ (List.mem_append_right _ (List.mem_append_left _ (List.mem_of_getElem? (i := 115) rfl))))) rfl
theorem zl_A_ask : Cond.selects "ThinkNumber" K_A_ask.1 K_A_ask.1 ∈ tb := tb_in (List.mem_append_right _ (List.mem_append_right _ (List.mem_append_right _ (List.mem_append_left _ (List.mem_of_getElem? (i := 116) rfl))))) rfl
theorem zs_A_known : Cond.instanceMethod K_A_known.1 ∈ tb := tb_in (List.mem_append_right _ (List.mem_append_right _ (List.mem_append_right _ (List.mem_append_left _ (List.mem_of_getElem? (i := 119) rfl))))) rfl
theorem zl_A_known : Cond.selects "ThinkNumber" K_A_known.1 K_A_known.1 ∈ tb := tb_in (List.mem_append_right _ (List.mem_append_right _ (List.mem_append_right _ (List.mem_append_left _ (List.mem_of_getElem? (i := 120) rfl))))) rfl
theorem zs_A_fewestAsks : Cond.instanceMethod K_A_fewestAsks.1 ∈ tb := tb_in (List.mem_append_right _ (List.mem_append_right _ (List.mem_append_right _ (List.mem_append_left _ (List.mem_of_getElem? (i := 124) rfl))))) rfl
theorem zl_A_fewestAsks : Cond.selects "ThinkNumber" K_A_fewestAsks.1 K_A_fewestAsks.1 ∈ tb := tb_sel (List.mem_of_getElem? (i := 30) (by decide +kernel)) rfl
theorem zs_JInt_bitCount : Cond.static K_JInt_bitCount.1 ∈ tb := tb_in (List.mem_append_right _ (List.mem_append_right _ (List.mem_append_right _ (List.mem_append_left _ (List.mem_of_getElem? (i := 127) rfl))))) rfl
theorem zs_A_mostAsksBehind : Cond.instanceMethod K_A_mostAsksBehind.1 ∈ tb := tb_in (List.mem_append_right _ (List.mem_append_right _ (List.mem_append_right _ (List.mem_append_left _ (List.mem_of_getElem? (i := 134) rfl))))) rfl
theorem zl_A_mostAsksBehind : Cond.selects "ThinkNumber" K_A_mostAsksBehind.1 K_A_mostAsksBehind.1 ∈ tb := tb_sel (List.mem_of_getElem? (i := 31) (by decide +kernel)) rfl
theorem zs_A_multiplesOf : Cond.static K_A_multiplesOf.1 ∈ tb := tb_in (List.mem_append_right _ (List.mem_append_right _ (List.mem_append_right _ (List.mem_append_left _ (List.mem_of_getElem? (i := 137) rfl))))) rfl
theorem zs_A_lowestFirstAsk : Cond.instanceMethod K_A_lowestFirstAsk.1 ∈ tb := tb_in (List.mem_append_right _ (List.mem_append_right _ (List.mem_append_right _ (List.mem_append_left _ (List.mem_of_getElem? (i := 142) rfl))))) rfl
theorem zl_A_lowestFirstAsk : Cond.selects "ThinkNumber" K_A_lowestFirstAsk.1 K_A_lowestFirstAsk.1 ∈ tb := tb_sel (List.mem_of_getElem? (i := 32) (by decide +kernel)) rfl
theorem zs_A_rest : Cond.instanceMethod K_A_rest.1 ∈ tb := tb_in (List.mem_append_right _ (List.mem_append_right _ (List.mem_append_right _ (List.mem_append_left _ (List.mem_of_getElem? (i := 145) rfl))))) rfl
theorem zl_A_rest : Cond.selects "ThinkNumber" K_A_rest.1 K_A_rest.1 ∈ tb := tb_in (List.mem_append_right _ (List.mem_append_right _ (List.mem_append_right _ (List.mem_append_left _ (List.mem_of_getElem? (i := 146) rfl))))) rfl
theorem zs_Tape_marks : Cond.instanceMethod K_Tape_marks.1 ∈ tb := tb_in (List.mem_append_right _ (List.mem_append_right _ (List.mem_append_right _ (List.mem_append_left _ (List.mem_of_getElem? (i := 149) rfl))))) rfl
theorem zl_Tape_marks : Cond.selects "ThinkNumber$Tape" K_Tape_marks.1 K_Tape_marks.1 ∈ tb := tb_in (List.mem_append_right _ (List.mem_append_right _ (List.mem_append_right _ (List.mem_append_left _ (List.mem_of_getElem? (i := 150) rfl))))) rfl
theorem zs_Tape_restBy : Cond.instanceMethod K_Tape_restBy.1 ∈ tb := tb_in (List.mem_append_right _ (List.mem_append_right _ (List.mem_append_right _ (List.mem_append_left _ (List.mem_of_getElem? (i := 153) rfl))))) rfl
theorem zl_Tape_restBy : Cond.selects "ThinkNumber$Tape" K_Tape_restBy.1 K_Tape_restBy.1 ∈ tb := tb_in (List.mem_append_right _ (List.mem_append_right _ (List.mem_append_right _ (List.mem_append_left _ (List.mem_of_getElem? (i := 154) rfl))))) rfl
theorem zs_A_struck : Cond.instanceMethod K_A_struck.1 ∈ tb := tb_in (List.mem_append_right _ (List.mem_append_right _ (List.mem_append_right _ (List.mem_append_left _ (List.mem_of_getElem? (i := 157) rfl))))) rfl
theorem zl_A_struck : Cond.selects "ThinkNumber" K_A_struck.1 K_A_struck.1 ∈ tb := tb_in (List.mem_append_right _ (List.mem_append_right _ (List.mem_append_right _ (List.mem_append_left _ (List.mem_of_getElem? (i := 158) rfl))))) rfl
theorem zs_A_play : Cond.instanceMethod K_A_play.1 ∈ tb := tb_in (List.mem_append_right _ (List.mem_append_right _ (List.mem_append_right _ (List.mem_append_left _ (List.mem_of_getElem? (i := 161) rfl))))) rfl
theorem zl_A_play : Cond.selects "ThinkNumber" K_A_play.1 K_A_play.1 ∈ tb := tb_in (List.mem_append_right _ (List.mem_append_right _ (List.mem_append_right _ (List.mem_append_left _ (List.mem_of_getElem? (i := 162) rfl))))) rfl
theorem zs_A_go : Cond.instanceMethod K_A_go.1 ∈ tb := tb_in (List.mem_append_right _ (List.mem_append_right _ (List.mem_append_right _ (List.mem_append_left _ (List.mem_of_getElem? (i := 166) rfl))))) rfl
theorem zl_A_go : Cond.selects "ThinkNumber" K_A_go.1 K_A_go.1 ∈ tb := tb_in (List.mem_append_right _ (List.mem_append_right _ (List.mem_append_right _ (List.mem_append_left _ (List.mem_of_getElem? (i := 167) rfl))))) rfl
theorem zs_State_ordersPlayed : Cond.instanceMethod K_State_ordersPlayed.1 ∈ tb := tb_in (List.mem_append_right _ (List.mem_append_right _ (List.mem_append_right _ (List.mem_append_left _ (List.mem_of_getElem? (i := 170) rfl))))) rfl
theorem zl_State_ordersPlayed : Cond.selects "ThinkNumber$State" K_State_ordersPlayed.1 K_State_ordersPlayed.1 ∈ tb := tb_in (List.mem_append_right _ (List.mem_append_right _ (List.mem_append_right _ (List.mem_append_left _ (List.mem_of_getElem? (i := 171) rfl))))) rfl
theorem zs_Values_readLast : Cond.instanceMethod K_Values_readLast.1 ∈ tb := tb_in (List.mem_append_right _ (List.mem_append_right _ (List.mem_append_right _ (List.mem_append_left _ (List.mem_of_getElem? (i := 175) rfl))))) rfl
theorem zl_Values_readLast : Cond.selects "ThinkNumber$Values" K_Values_readLast.1 K_Values_readLast.1 ∈ tb := tb_in (List.mem_append_right _ (List.mem_append_right _ (List.mem_append_right _ (List.mem_append_left _ (List.mem_of_getElem? (i := 176) rfl))))) rfl
theorem zs_A_undo : Cond.instanceMethod K_A_undo.1 ∈ tb := tb_in (List.mem_append_right _ (List.mem_append_right _ (List.mem_append_right _ (List.mem_append_left _ (List.mem_of_getElem? (i := 180) rfl))))) rfl
theorem zl_A_undo : Cond.selects "ThinkNumber" K_A_undo.1 K_A_undo.1 ∈ tb := tb_in (List.mem_append_right _ (List.mem_append_right _ (List.mem_append_right _ (List.mem_append_left _ (List.mem_of_getElem? (i := 181) rfl))))) rfl
theorem zs_A_value : Cond.instanceMethod K_A_value.1 ∈ tb := tb_in (List.mem_append_right _ (List.mem_append_right _ (List.mem_append_right _ (List.mem_append_left _ (List.mem_of_getElem? (i := 184) rfl))))) rfl
theorem zl_A_value : Cond.selects "ThinkNumber" K_A_value.1 K_A_value.1 ∈ tb := tb_in (List.mem_append_right _ (List.mem_append_right _ (List.mem_append_right _ (List.mem_append_left _ (List.mem_of_getElem? (i := 185) rfl))))) rfl
theorem zs_A_image : Cond.instanceMethod K_A_image.1 ∈ tb := tb_in (List.mem_append_right _ (List.mem_append_right _ (List.mem_append_right _ (List.mem_append_left _ (List.mem_of_getElem? (i := 188) rfl))))) rfl
theorem zl_A_image : Cond.selects "ThinkNumber" K_A_image.1 K_A_image.1 ∈ tb := tb_in (List.mem_append_right _ (List.mem_append_right _ (List.mem_append_right _ (List.mem_append_left _ (List.mem_of_getElem? (i := 189) rfl))))) rfl
theorem zs_State_copyFrom : Cond.instanceMethod K_State_copyFrom.1 ∈ tb := tb_in (List.mem_append_right _ (List.mem_append_right _ (List.mem_append_right _ (List.mem_append_left _ (List.mem_of_getElem? (i := 192) rfl))))) rfl
theorem zl_State_copyFrom : Cond.selects "ThinkNumber$State" K_State_copyFrom.1 K_State_copyFrom.1 ∈ tb := tb_in (List.mem_append_right _ (List.mem_append_right _ (List.mem_append_right _ (List.mem_append_left _ (List.mem_of_getElem? (i := 193) rfl))))) rfl
theorem zs_Values_copyFrom : Cond.instanceMethod K_Values_copyFrom.1 ∈ tb := tb_in (List.mem_append_right _ (List.mem_append_right _ (List.mem_append_right _ (List.mem_append_left _ (List.mem_of_getElem? (i := 197) rfl))))) rfl
theorem zl_Values_copyFrom : Cond.selects "ThinkNumber$Values" K_Values_copyFrom.1 K_Values_copyFrom.1 ∈ tb := tb_in (List.mem_append_right _ (List.mem_append_right _ (List.mem_append_right _ (List.mem_append_left _ (List.mem_of_getElem? (i := 198) rfl))))) rfl
theorem zs_Orders_copyFrom : Cond.instanceMethod K_Orders_copyFrom.1 ∈ tb := tb_in (List.mem_append_right _ (List.mem_append_right _ (List.mem_append_right _ (List.mem_append_left _ (List.mem_of_getElem? (i := 203) rfl))))) rfl
theorem zl_Orders_copyFrom : Cond.selects "ThinkNumber$Orders" K_Orders_copyFrom.1 K_Orders_copyFrom.1 ∈ tb := tb_in (List.mem_append_right _ (List.mem_append_right _ (List.mem_append_right _ (List.mem_append_left _ (List.mem_of_getElem? (i := 204) rfl))))) rfl
theorem zs_A_back : Cond.instanceMethod K_A_back.1 ∈ tb := tb_in (List.mem_append_right _ (List.mem_append_right _ (List.mem_append_right _ (List.mem_append_left _ (List.mem_of_getElem? (i := 209) rfl))))) rfl
theorem zl_A_back : Cond.selects "ThinkNumber" K_A_back.1 K_A_back.1 ∈ tb := tb_in (List.mem_append_right _ (List.mem_append_right _ (List.mem_append_right _ (List.mem_append_left _ (List.mem_of_getElem? (i := 210) rfl))))) rfl
theorem zs_A_about : Cond.instanceMethod K_A_about.1 ∈ tb := tb_in (List.mem_append_right _ (List.mem_append_right _ (List.mem_append_right _ (List.mem_append_left _ (List.mem_of_getElem? (i := 213) rfl))))) rfl
theorem zl_A_about : Cond.selects "ThinkNumber" K_A_about.1 K_A_about.1 ∈ tb := tb_in (List.mem_append_right _ (List.mem_append_right _ (List.mem_append_right _ (List.mem_append_left _ (List.mem_of_getElem? (i := 214) rfl))))) rfl
theorem zs_M_copyAll : Cond.static K_M_copyAll.1 ∈ tb := tb_in (List.mem_append_right _ (List.mem_append_right _ (List.mem_append_right _ (List.mem_append_left _ (List.mem_of_getElem? (i := 223) rfl))))) rfl
theorem zs_M_think : Cond.instanceMethod K_M_think.1 ∈ tb := tb_in (List.mem_append_right _ (List.mem_append_right _ (List.mem_append_right _ (List.mem_append_right _ (List.mem_append_left _ (List.mem_of_getElem? (i := 66) rfl)))))) rfl
theorem zl_M_think : Cond.selects "ThinkNumberModel" K_M_think.1 K_M_think.1 ∈ tb := tb_in (List.mem_append_right _ (List.mem_append_right _ (List.mem_append_right _ (List.mem_append_right _ (List.mem_append_left _ (List.mem_of_getElem? (i := 67) rfl)))))) rfl
theorem zs_M_isIn : Cond.static K_M_isIn.1 ∈ tb := tb_in (List.mem_append_right _ (List.mem_append_right _ (List.mem_append_right _ (List.mem_append_right _ (List.mem_append_left _ (List.mem_of_getElem? (i := 70) rfl)))))) rfl
theorem zs_M_feed : Cond.instanceMethod K_M_feed.1 ∈ tb := tb_in (List.mem_append_right _ (List.mem_append_right _ (List.mem_append_right _ (List.mem_append_right _ (List.mem_append_left _ (List.mem_of_getElem? (i := 73) rfl)))))) rfl
theorem zl_M_feed : Cond.selects "ThinkNumberModel" K_M_feed.1 K_M_feed.1 ∈ tb := tb_in (List.mem_append_right _ (List.mem_append_right _ (List.mem_append_right _ (List.mem_append_right _ (List.mem_append_left _ (List.mem_of_getElem? (i := 74) rfl)))))) rfl
theorem zs_M_four : Cond.instanceMethod K_M_four.1 ∈ tb := tb_in (List.mem_append_right _ (List.mem_append_right _ (List.mem_append_right _ (List.mem_append_right _ (List.mem_append_left _ (List.mem_of_getElem? (i := 78) rfl)))))) rfl
theorem zl_M_four : Cond.selects "ThinkNumberModel" K_M_four.1 K_M_four.1 ∈ tb := tb_sel (List.mem_of_getElem? (i := 33) (by decide +kernel)) rfl
theorem zs_M_end : Cond.instanceMethod K_M_end.1 ∈ tb := tb_in (List.mem_append_right _ (List.mem_append_right _ (List.mem_append_right _ (List.mem_append_right _ (List.mem_append_left _ (List.mem_of_getElem? (i := 81) rfl)))))) rfl
theorem zl_M_end : Cond.selects "ThinkNumberModel" K_M_end.1 K_M_end.1 ∈ tb := tb_in (List.mem_append_right _ (List.mem_append_right _ (List.mem_append_right _ (List.mem_append_right _ (List.mem_append_left _ (List.mem_of_getElem? (i := 82) rfl)))))) rfl
theorem zs_M_table : Cond.instanceMethod K_M_table.1 ∈ tb := tb_in (List.mem_append_right _ (List.mem_append_right _ (List.mem_append_right _ (List.mem_append_right _ (List.mem_append_left _ (List.mem_of_getElem? (i := 85) rfl)))))) rfl
theorem zl_M_table : Cond.selects "ThinkNumberModel" K_M_table.1 K_M_table.1 ∈ tb := tb_in (List.mem_append_right _ (List.mem_append_right _ (List.mem_append_right _ (List.mem_append_right _ (List.mem_append_left _ (List.mem_of_getElem? (i := 86) rfl)))))) rfl
theorem zs_M_readTable : Cond.instanceMethod K_M_readTable.1 ∈ tb := tb_in (List.mem_append_right _ (List.mem_append_right _ (List.mem_append_right _ (List.mem_append_right _ (List.mem_append_left _ (List.mem_of_getElem? (i := 90) rfl)))))) rfl
theorem zl_M_readTable : Cond.selects "ThinkNumberModel" K_M_readTable.1 K_M_readTable.1 ∈ tb := tb_sel (List.mem_of_getElem? (i := 34) (by decide +kernel)) rfl
theorem zs_M_nextToken : Cond.instanceMethod K_M_nextToken.1 ∈ tb := tb_in (List.mem_append_right _ (List.mem_append_right _ (List.mem_append_right _ (List.mem_append_right _ (List.mem_append_left _ (List.mem_of_getElem? (i := 94) rfl)))))) rfl
theorem zl_M_nextToken : Cond.selects "ThinkNumberModel" K_M_nextToken.1 K_M_nextToken.1 ∈ tb := tb_sel (List.mem_of_getElem? (i := 35) (by decide +kernel)) rfl
theorem zs_M_byteAt : Cond.instanceMethod K_M_byteAt.1 ∈ tb := tb_in (List.mem_append_right _ (List.mem_append_right _ (List.mem_append_right _ (List.mem_append_right _ (List.mem_append_left _ (List.mem_of_getElem? (i := 98) rfl)))))) rfl
theorem zl_M_byteAt : Cond.selects "ThinkNumberModel" K_M_byteAt.1 K_M_byteAt.1 ∈ tb := tb_sel (List.mem_of_getElem? (i := 36) (by decide +kernel)) rfl
theorem zs_M_isFigure : Cond.static K_M_isFigure.1 ∈ tb := tb_in (List.mem_append_right _ (List.mem_append_right _ (List.mem_append_right _ (List.mem_append_right _ (List.mem_append_left _ (List.mem_of_getElem? (i := 101) rfl)))))) rfl
theorem zs_M_isLetterByte : Cond.static K_M_isLetterByte.1 ∈ tb := tb_in (List.mem_append_right _ (List.mem_append_right _ (List.mem_append_right _ (List.mem_append_right _ (List.mem_append_left _ (List.mem_of_getElem? (i := 105) rfl)))))) rfl
theorem zs_M_kindAt : Cond.instanceMethod K_M_kindAt.1 ∈ tb := tb_in (List.mem_append_right _ (List.mem_append_right _ (List.mem_append_right _ (List.mem_append_right _ (List.mem_append_left _ (List.mem_of_getElem? (i := 110) rfl)))))) rfl
theorem zl_M_kindAt : Cond.selects "ThinkNumberModel" K_M_kindAt.1 K_M_kindAt.1 ∈ tb := tb_sel (List.mem_of_getElem? (i := 37) (by decide +kernel)) rfl
theorem zs_M_w3 : Cond.static K_M_w3.1 ∈ tb := tb_in (List.mem_append_right _ (List.mem_append_right _ (List.mem_append_right _ (List.mem_append_right _ (List.mem_append_left _ (List.mem_of_getElem? (i := 113) rfl)))))) rfl
theorem zs_M_isWord : Cond.instanceMethod K_M_isWord.1 ∈ tb := tb_in (List.mem_append_right _ (List.mem_append_right _ (List.mem_append_right _ (List.mem_append_right _ (List.mem_append_left _ (List.mem_of_getElem? (i := 117) rfl)))))) rfl
theorem zl_M_isWord : Cond.selects "ThinkNumberModel" K_M_isWord.1 K_M_isWord.1 ∈ tb := tb_sel (List.mem_of_getElem? (i := 38) (by decide +kernel)) rfl
theorem zs_M_w4 : Cond.static K_M_w4.1 ∈ tb := tb_in (List.mem_append_right _ (List.mem_append_right _ (List.mem_append_right _ (List.mem_append_right _ (List.mem_append_left _ (List.mem_of_getElem? (i := 120) rfl)))))) rfl
theorem zs_M_w5 : Cond.static K_M_w5.1 ∈ tb := tb_in (List.mem_append_right _ (List.mem_append_right _ (List.mem_append_right _ (List.mem_append_right _ (List.mem_append_left _ (List.mem_of_getElem? (i := 123) rfl)))))) rfl
theorem zs_M_w6 : Cond.static K_M_w6.1 ∈ tb := tb_in (List.mem_append_right _ (List.mem_append_right _ (List.mem_append_right _ (List.mem_append_right _ (List.mem_append_left _ (List.mem_of_getElem? (i := 127) rfl)))))) rfl
theorem zs_M_hide : Cond.instanceMethod K_M_hide.1 ∈ tb := tb_in (List.mem_append_right _ (List.mem_append_right _ (List.mem_append_right _ (List.mem_append_right _ (List.mem_append_left _ (List.mem_of_getElem? (i := 131) rfl)))))) rfl
theorem zl_M_hide : Cond.selects "ThinkNumberModel" K_M_hide.1 K_M_hide.1 ∈ tb := tb_sel (List.mem_of_getElem? (i := 39) (by decide +kernel)) rfl
theorem zs_M_letterAt : Cond.instanceMethod K_M_letterAt.1 ∈ tb := tb_in (List.mem_append_right _ (List.mem_append_right _ (List.mem_append_right _ (List.mem_append_right _ (List.mem_append_left _ (List.mem_of_getElem? (i := 135) rfl)))))) rfl
theorem zl_M_letterAt : Cond.selects "ThinkNumberModel" K_M_letterAt.1 K_M_letterAt.1 ∈ tb := tb_sel (List.mem_of_getElem? (i := 40) (by decide +kernel)) rfl
theorem zs_M_numberAt : Cond.instanceMethod K_M_numberAt.1 ∈ tb := tb_in (List.mem_append_right _ (List.mem_append_right _ (List.mem_append_right _ (List.mem_append_right _ (List.mem_append_left _ (List.mem_of_getElem? (i := 141) rfl)))))) rfl
theorem zl_M_numberAt : Cond.selects "ThinkNumberModel" K_M_numberAt.1 K_M_numberAt.1 ∈ tb := tb_sel (List.mem_of_getElem? (i := 41) (by decide +kernel)) rfl
theorem zs_M_order0 : Cond.instanceMethod K_M_order0.1 ∈ tb := tb_in (List.mem_append_right _ (List.mem_append_right _ (List.mem_append_right _ (List.mem_append_right _ (List.mem_append_left _ (List.mem_of_getElem? (i := 146) rfl)))))) rfl
theorem zl_M_order0 : Cond.selects "ThinkNumberModel" K_M_order0.1 K_M_order0.1 ∈ tb := tb_sel (List.mem_of_getElem? (i := 42) (by decide +kernel)) rfl
theorem zs_M_xAt : Cond.instanceMethod K_M_xAt.1 ∈ tb := tb_in (List.mem_append_right _ (List.mem_append_right _ (List.mem_append_right _ (List.mem_append_right _ (List.mem_append_left _ (List.mem_of_getElem? (i := 150) rfl)))))) rfl
theorem zl_M_xAt : Cond.selects "ThinkNumberModel" K_M_xAt.1 K_M_xAt.1 ∈ tb := tb_sel (List.mem_of_getElem? (i := 43) (by decide +kernel)) rfl
theorem zs_M_fault : Cond.instanceMethod K_M_fault.1 ∈ tb := tb_in (List.mem_append_right _ (List.mem_append_right _ (List.mem_append_right _ (List.mem_append_right _ (List.mem_append_left _ (List.mem_of_getElem? (i := 153) rfl)))))) rfl
theorem zl_M_fault : Cond.selects "ThinkNumberModel" K_M_fault.1 K_M_fault.1 ∈ tb := tb_in (List.mem_append_right _ (List.mem_append_right _ (List.mem_append_right _ (List.mem_append_right _ (List.mem_append_left _ (List.mem_of_getElem? (i := 154) rfl)))))) rfl
theorem zs_M_order : Cond.instanceMethod K_M_order.1 ∈ tb := tb_in (List.mem_append_right _ (List.mem_append_right _ (List.mem_append_right _ (List.mem_append_right _ (List.mem_append_left _ (List.mem_of_getElem? (i := 157) rfl)))))) rfl
theorem zl_M_order : Cond.selects "ThinkNumberModel" K_M_order.1 K_M_order.1 ∈ tb := tb_in (List.mem_append_right _ (List.mem_append_right _ (List.mem_append_right _ (List.mem_append_right _ (List.mem_append_left _ (List.mem_of_getElem? (i := 158) rfl)))))) rfl
theorem zs_M_isTable : Cond.instanceMethod K_M_isTable.1 ∈ tb := tb_in (List.mem_append_right _ (List.mem_append_right _ (List.mem_append_right _ (List.mem_append_right _ (List.mem_append_left _ (List.mem_of_getElem? (i := 162) rfl)))))) rfl
theorem zl_M_isTable : Cond.selects "ThinkNumberModel" K_M_isTable.1 K_M_isTable.1 ∈ tb := tb_sel (List.mem_of_getElem? (i := 44) (by decide +kernel)) rfl
theorem zs_M_ordersOf : Cond.instanceMethod K_M_ordersOf.1 ∈ tb := tb_in (List.mem_append_right _ (List.mem_append_right _ (List.mem_append_right _ (List.mem_append_right _ (List.mem_append_left _ (List.mem_of_getElem? (i := 166) rfl)))))) rfl
theorem zl_M_ordersOf : Cond.selects "ThinkNumberModel" K_M_ordersOf.1 K_M_ordersOf.1 ∈ tb := tb_sel (List.mem_of_getElem? (i := 45) (by decide +kernel)) rfl
theorem zs_M_xOf : Cond.instanceMethod K_M_xOf.1 ∈ tb := tb_in (List.mem_append_right _ (List.mem_append_right _ (List.mem_append_right _ (List.mem_append_right _ (List.mem_append_left _ (List.mem_of_getElem? (i := 170) rfl)))))) rfl
theorem zl_M_xOf : Cond.selects "ThinkNumberModel" K_M_xOf.1 K_M_xOf.1 ∈ tb := tb_sel (List.mem_of_getElem? (i := 46) (by decide +kernel)) rfl
theorem zs_M_kindOf : Cond.instanceMethod K_M_kindOf.1 ∈ tb := tb_in (List.mem_append_right _ (List.mem_append_right _ (List.mem_append_right _ (List.mem_append_right _ (List.mem_append_left _ (List.mem_of_getElem? (i := 174) rfl)))))) rfl
theorem zl_M_kindOf : Cond.selects "ThinkNumberModel" K_M_kindOf.1 K_M_kindOf.1 ∈ tb := tb_sel (List.mem_of_getElem? (i := 47) (by decide +kernel)) rfl
theorem zs_M_span : Cond.instanceMethod K_M_span.1 ∈ tb := tb_in (List.mem_append_right _ (List.mem_append_right _ (List.mem_append_right _ (List.mem_append_right _ (List.mem_append_left _ (List.mem_of_getElem? (i := 177) rfl)))))) rfl
theorem zl_M_span : Cond.selects "ThinkNumberModel" K_M_span.1 K_M_span.1 ∈ tb := tb_in (List.mem_append_right _ (List.mem_append_right _ (List.mem_append_right _ (List.mem_append_right _ (List.mem_append_left _ (List.mem_of_getElem? (i := 178) rfl)))))) rfl
theorem zs_M_isHidden : Cond.instanceMethod K_M_isHidden.1 ∈ tb := tb_in (List.mem_append_right _ (List.mem_append_right _ (List.mem_append_right _ (List.mem_append_right _ (List.mem_append_left _ (List.mem_of_getElem? (i := 182) rfl)))))) rfl
theorem zl_M_isHidden : Cond.selects "ThinkNumberModel" K_M_isHidden.1 K_M_isHidden.1 ∈ tb := tb_sel (List.mem_of_getElem? (i := 48) (by decide +kernel)) rfl
theorem zs_M_spanOf : Cond.instanceMethod K_M_spanOf.1 ∈ tb := tb_in (List.mem_append_right _ (List.mem_append_right _ (List.mem_append_right _ (List.mem_append_right _ (List.mem_append_left _ (List.mem_of_getElem? (i := 186) rfl)))))) rfl
theorem zl_M_spanOf : Cond.selects "ThinkNumberModel" K_M_spanOf.1 K_M_spanOf.1 ∈ tb := tb_sel (List.mem_of_getElem? (i := 49) (by decide +kernel)) rfl
theorem zs_M_comes : Cond.instanceMethod K_M_comes.1 ∈ tb := tb_in (List.mem_append_right _ (List.mem_append_right _ (List.mem_append_right _ (List.mem_append_right _ (List.mem_append_left _ (List.mem_of_getElem? (i := 189) rfl)))))) rfl
theorem zl_M_comes : Cond.selects "ThinkNumberModel" K_M_comes.1 K_M_comes.1 ∈ tb := tb_in (List.mem_append_right _ (List.mem_append_right _ (List.mem_append_right _ (List.mem_append_right _ (List.mem_append_left _ (List.mem_of_getElem? (i := 190) rfl)))))) rfl
theorem zs_M_thinkNow : Cond.instanceMethod K_M_thinkNow.1 ∈ tb := tb_in (List.mem_append_right _ (List.mem_append_right _ (List.mem_append_right _ (List.mem_append_right _ (List.mem_append_left _ (List.mem_of_getElem? (i := 195) rfl)))))) rfl
theorem zl_M_thinkNow : Cond.selects "ThinkNumberModel" K_M_thinkNow.1 K_M_thinkNow.1 ∈ tb := tb_sel (List.mem_of_getElem? (i := 50) (by decide +kernel)) rfl
theorem zs_M_goTo : Cond.instanceMethod K_M_goTo.1 ∈ tb := tb_in (List.mem_append_right _ (List.mem_append_right _ (List.mem_append_right _ (List.mem_append_right _ (List.mem_append_left _ (List.mem_of_getElem? (i := 199) rfl)))))) rfl
theorem zl_M_goTo : Cond.selects "ThinkNumberModel" K_M_goTo.1 K_M_goTo.1 ∈ tb := tb_sel (List.mem_of_getElem? (i := 51) (by decide +kernel)) rfl
theorem zs_M_begin : Cond.instanceMethod K_M_begin.1 ∈ tb := tb_in (List.mem_append_right _ (List.mem_append_right _ (List.mem_append_right _ (List.mem_append_right _ (List.mem_append_left _ (List.mem_of_getElem? (i := 203) rfl)))))) rfl
theorem zl_M_begin : Cond.selects "ThinkNumberModel" K_M_begin.1 K_M_begin.1 ∈ tb := tb_sel (List.mem_of_getElem? (i := 52) (by decide +kernel)) rfl
theorem zs_M_does : Cond.instanceMethod K_M_does.1 ∈ tb := tb_in (List.mem_append_right _ (List.mem_append_right _ (List.mem_append_right _ (List.mem_append_right _ (List.mem_append_left _ (List.mem_of_getElem? (i := 207) rfl)))))) rfl
theorem zl_M_does : Cond.selects "ThinkNumberModel" K_M_does.1 K_M_does.1 ∈ tb := tb_sel (List.mem_of_getElem? (i := 53) (by decide +kernel)) rfl
theorem zs_M_lay : Cond.instanceMethod K_M_lay.1 ∈ tb := tb_in (List.mem_append_right _ (List.mem_append_right _ (List.mem_append_right _ (List.mem_append_right _ (List.mem_append_left _ (List.mem_of_getElem? (i := 211) rfl)))))) rfl
theorem zl_M_lay : Cond.selects "ThinkNumberModel" K_M_lay.1 K_M_lay.1 ∈ tb := tb_sel (List.mem_of_getElem? (i := 54) (by decide +kernel)) rfl
theorem zs_M_common : Cond.static K_M_common.1 ∈ tb := tb_in (List.mem_append_right _ (List.mem_append_right _ (List.mem_append_right _ (List.mem_append_right _ (List.mem_append_left _ (List.mem_of_getElem? (i := 214) rfl)))))) rfl
theorem zs_M_figures : Cond.instanceMethod K_M_figures.1 ∈ tb := tb_in (List.mem_append_right _ (List.mem_append_right _ (List.mem_append_right _ (List.mem_append_right _ (List.mem_append_left _ (List.mem_of_getElem? (i := 221) rfl)))))) rfl
theorem zl_M_figures : Cond.selects "ThinkNumberModel" K_M_figures.1 K_M_figures.1 ∈ tb := tb_sel (List.mem_of_getElem? (i := 55) (by decide +kernel)) rfl
theorem zs_M_figuresOf : Cond.static K_M_figuresOf.1 ∈ tb := tb_in (List.mem_append_right _ (List.mem_append_right _ (List.mem_append_right _ (List.mem_append_right _ (List.mem_append_left _ (List.mem_of_getElem? (i := 224) rfl)))))) rfl
theorem zs_M_tenTo : Cond.static K_M_tenTo.1 ∈ tb := tb_in (List.mem_append_right _ (List.mem_append_right _ (List.mem_append_right _ (List.mem_append_right _ (List.mem_append_left _ (List.mem_of_getElem? (i := 228) rfl)))))) rfl
theorem zs_M_turned : Cond.static K_M_turned.1 ∈ tb := tb_in (List.mem_append_right _ (List.mem_append_right _ (List.mem_append_right _ (List.mem_append_right _ (List.mem_append_left _ (List.mem_of_getElem? (i := 231) rfl)))))) rfl
theorem zs_M_across : Cond.static K_M_across.1 ∈ tb := tb_in (List.mem_append_right _ (List.mem_append_right _ (List.mem_append_right _ (List.mem_append_right _ (List.mem_append_left _ (List.mem_of_getElem? (i := 234) rfl)))))) rfl
theorem zs_M_fails : Cond.instanceMethod K_M_fails.1 ∈ tb := tb_in (List.mem_append_right _ (List.mem_append_right _ (List.mem_append_right _ (List.mem_append_right _ (List.mem_append_left _ (List.mem_of_getElem? (i := 237) rfl)))))) rfl
theorem zl_M_fails : Cond.selects "ThinkNumberModel" K_M_fails.1 K_M_fails.1 ∈ tb := tb_in (List.mem_append_right _ (List.mem_append_right _ (List.mem_append_right _ (List.mem_append_right _ (List.mem_append_left _ (List.mem_of_getElem? (i := 238) rfl)))))) rfl
theorem zs_M_said : Cond.instanceMethod K_M_said.1 ∈ tb := tb_in (List.mem_append_right _ (List.mem_append_right _ (List.mem_append_right _ (List.mem_append_right _ (List.mem_append_right _ (List.mem_of_getElem? (i := 1) rfl)))))) rfl
theorem zl_M_said : Cond.selects "ThinkNumberModel" K_M_said.1 K_M_said.1 ∈ tb := tb_in (List.mem_append_right _ (List.mem_append_right _ (List.mem_append_right _ (List.mem_append_right _ (List.mem_append_right _ (List.mem_of_getElem? (i := 2) rfl)))))) rfl
theorem zs_M_claim : Cond.instanceMethod K_M_claim.1 ∈ tb := tb_in (List.mem_append_right _ (List.mem_append_right _ (List.mem_append_right _ (List.mem_append_right _ (List.mem_append_right _ (List.mem_of_getElem? (i := 5) rfl)))))) rfl
theorem zl_M_claim : Cond.selects "ThinkNumberModel" K_M_claim.1 K_M_claim.1 ∈ tb := tb_in (List.mem_append_right _ (List.mem_append_right _ (List.mem_append_right _ (List.mem_append_right _ (List.mem_append_right _ (List.mem_of_getElem? (i := 6) rfl)))))) rfl
theorem zs_M_listed : Cond.instanceMethod K_M_listed.1 ∈ tb := tb_in (List.mem_append_right _ (List.mem_append_right _ (List.mem_append_right _ (List.mem_append_right _ (List.mem_append_right _ (List.mem_of_getElem? (i := 10) rfl)))))) rfl
theorem zl_M_listed : Cond.selects "ThinkNumberModel" K_M_listed.1 K_M_listed.1 ∈ tb := tb_sel (List.mem_of_getElem? (i := 56) (by decide +kernel)) rfl
theorem zs_M_isFraction : Cond.static K_M_isFraction.1 ∈ tb := tb_in (List.mem_append_right _ (List.mem_append_right _ (List.mem_append_right _ (List.mem_append_right _ (List.mem_append_right _ (List.mem_of_getElem? (i := 13) rfl)))))) rfl
theorem zs_M_write : Cond.instanceMethod K_M_write.1 ∈ tb := tb_in (List.mem_append_right _ (List.mem_append_right _ (List.mem_append_right _ (List.mem_append_right _ (List.mem_append_right _ (List.mem_of_getElem? (i := 20) rfl)))))) rfl
theorem zl_M_write : Cond.selects "ThinkNumberModel" K_M_write.1 K_M_write.1 ∈ tb := tb_sel (List.mem_of_getElem? (i := 57) (by decide +kernel)) rfl
theorem zs_M_hear : Cond.instanceMethod K_M_hear.1 ∈ tb := tb_in (List.mem_append_right _ (List.mem_append_right _ (List.mem_append_right _ (List.mem_append_right _ (List.mem_append_right _ (List.mem_of_getElem? (i := 23) rfl)))))) rfl
theorem zl_M_hear : Cond.selects "ThinkNumberModel" K_M_hear.1 K_M_hear.1 ∈ tb := tb_in (List.mem_append_right _ (List.mem_append_right _ (List.mem_append_right _ (List.mem_append_right _ (List.mem_append_right _ (List.mem_of_getElem? (i := 24) rfl)))))) rfl
theorem zs_M_judge : Cond.instanceMethod K_M_judge.1 ∈ tb := tb_in (List.mem_append_right _ (List.mem_append_right _ (List.mem_append_right _ (List.mem_append_right _ (List.mem_append_right _ (List.mem_of_getElem? (i := 27) rfl)))))) rfl
theorem zl_M_judge : Cond.selects "ThinkNumberModel" K_M_judge.1 K_M_judge.1 ∈ tb := tb_in (List.mem_append_right _ (List.mem_append_right _ (List.mem_append_right _ (List.mem_append_right _ (List.mem_append_right _ (List.mem_of_getElem? (i := 28) rfl)))))) rfl
theorem zs_M_same : Cond.instanceMethod K_M_same.1 ∈ tb := tb_in (List.mem_append_right _ (List.mem_append_right _ (List.mem_append_right _ (List.mem_append_right _ (List.mem_append_right _ (List.mem_of_getElem? (i := 31) rfl)))))) rfl
theorem zl_M_same : Cond.selects "ThinkNumberModel" K_M_same.1 K_M_same.1 ∈ tb := tb_in (List.mem_append_right _ (List.mem_append_right _ (List.mem_append_right _ (List.mem_append_right _ (List.mem_append_right _ (List.mem_of_getElem? (i := 32) rfl)))))) rfl
theorem zs_M_allOf : Cond.instanceMethod K_M_allOf.1 ∈ tb := tb_in (List.mem_append_right _ (List.mem_append_right _ (List.mem_append_right _ (List.mem_append_right _ (List.mem_append_right _ (List.mem_of_getElem? (i := 36) rfl)))))) rfl
theorem zl_M_allOf : Cond.selects "ThinkNumberModel" K_M_allOf.1 K_M_allOf.1 ∈ tb := tb_sel (List.mem_of_getElem? (i := 58) (by decide +kernel)) rfl
theorem zs_M_lastOf : Cond.instanceMethod K_M_lastOf.1 ∈ tb := tb_in (List.mem_append_right _ (List.mem_append_right _ (List.mem_append_right _ (List.mem_append_right _ (List.mem_append_right _ (List.mem_of_getElem? (i := 40) rfl)))))) rfl
theorem zl_M_lastOf : Cond.selects "ThinkNumberModel" K_M_lastOf.1 K_M_lastOf.1 ∈ tb := tb_sel (List.mem_of_getElem? (i := 59) (by decide +kernel)) rfl
theorem zs_M_firstOf : Cond.instanceMethod K_M_firstOf.1 ∈ tb := tb_in (List.mem_append_right _ (List.mem_append_right _ (List.mem_append_right _ (List.mem_append_right _ (List.mem_append_right _ (List.mem_of_getElem? (i := 44) rfl)))))) rfl
theorem zl_M_firstOf : Cond.selects "ThinkNumberModel" K_M_firstOf.1 K_M_firstOf.1 ∈ tb := tb_sel (List.mem_of_getElem? (i := 60) (by decide +kernel)) rfl
theorem zs_M_isSame : Cond.instanceMethod K_M_isSame.1 ∈ tb := tb_in (List.mem_append_right _ (List.mem_append_right _ (List.mem_append_right _ (List.mem_append_right _ (List.mem_append_right _ (List.mem_of_getElem? (i := 49) rfl)))))) rfl
theorem zl_M_isSame : Cond.selects "ThinkNumberModel" K_M_isSame.1 K_M_isSame.1 ∈ tb := tb_sel (List.mem_of_getElem? (i := 61) (by decide +kernel)) rfl
theorem zs_M_thinkFirst : Cond.instanceMethod K_M_thinkFirst.1 ∈ tb := tb_in (List.mem_append_right _ (List.mem_append_right _ (List.mem_append_right _ (List.mem_append_right _ (List.mem_append_right _ (List.mem_of_getElem? (i := 53) rfl)))))) rfl
theorem zl_M_thinkFirst : Cond.selects "ThinkNumberModel" K_M_thinkFirst.1 K_M_thinkFirst.1 ∈ tb := tb_sel (List.mem_of_getElem? (i := 62) (by decide +kernel)) rfl
theorem zs_M_thinkNext : Cond.instanceMethod K_M_thinkNext.1 ∈ tb := tb_in (List.mem_append_right _ (List.mem_append_right _ (List.mem_append_right _ (List.mem_append_right _ (List.mem_append_right _ (List.mem_of_getElem? (i := 57) rfl)))))) rfl
theorem zl_M_thinkNext : Cond.selects "ThinkNumberModel" K_M_thinkNext.1 K_M_thinkNext.1 ∈ tb := tb_sel (List.mem_of_getElem? (i := 63) (by decide +kernel)) rfl
theorem zs_M_unlike : Cond.instanceMethod K_M_unlike.1 ∈ tb := tb_in (List.mem_append_right _ (List.mem_append_right _ (List.mem_append_right _ (List.mem_append_right _ (List.mem_append_right _ (List.mem_of_getElem? (i := 60) rfl)))))) rfl
theorem zl_M_unlike : Cond.selects "ThinkNumberModel" K_M_unlike.1 K_M_unlike.1 ∈ tb := tb_in (List.mem_append_right _ (List.mem_append_right _ (List.mem_append_right _ (List.mem_append_right _ (List.mem_append_right _ (List.mem_of_getElem? (i := 61) rfl)))))) rfl
theorem zs_M_proof : Cond.instanceMethod K_M_proof.1 ∈ tb := tb_in (List.mem_append_right _ (List.mem_append_right _ (List.mem_append_right _ (List.mem_append_right _ (List.mem_append_right _ (List.mem_of_getElem? (i := 64) rfl)))))) rfl
theorem zl_M_proof : Cond.selects "ThinkNumberModel" K_M_proof.1 K_M_proof.1 ∈ tb := tb_in (List.mem_append_right _ (List.mem_append_right _ (List.mem_append_right _ (List.mem_append_right _ (List.mem_append_right _ (List.mem_of_getElem? (i := 65) rfl)))))) rfl
theorem zs_M_proves : Cond.instanceMethod K_M_proves.1 ∈ tb := tb_in (List.mem_append_right _ (List.mem_append_right _ (List.mem_append_right _ (List.mem_append_right _ (List.mem_append_right _ (List.mem_of_getElem? (i := 69) rfl)))))) rfl
theorem zl_M_proves : Cond.selects "ThinkNumberModel" K_M_proves.1 K_M_proves.1 ∈ tb := tb_sel (List.mem_of_getElem? (i := 64) (by decide +kernel)) rfl
theorem zs_M_reduced : Cond.instanceMethod K_M_reduced.1 ∈ tb := tb_in (List.mem_append_right _ (List.mem_append_right _ (List.mem_append_right _ (List.mem_append_right _ (List.mem_append_right _ (List.mem_of_getElem? (i := 73) rfl)))))) rfl
theorem zl_M_reduced : Cond.selects "ThinkNumberModel" K_M_reduced.1 K_M_reduced.1 ∈ tb := tb_sel (List.mem_of_getElem? (i := 65) (by decide +kernel)) rfl
theorem zs_M_isNumber : Cond.instanceMethod K_M_isNumber.1 ∈ tb := tb_in (List.mem_append_right _ (List.mem_append_right _ (List.mem_append_right _ (List.mem_append_right _ (List.mem_append_right _ (List.mem_of_getElem? (i := 77) rfl)))))) rfl
theorem zl_M_isNumber : Cond.selects "ThinkNumberModel" K_M_isNumber.1 K_M_isNumber.1 ∈ tb := tb_sel (List.mem_of_getElem? (i := 66) (by decide +kernel)) rfl
theorem zs_M_fits : Cond.instanceMethod K_M_fits.1 ∈ tb := tb_in (List.mem_append_right _ (List.mem_append_right _ (List.mem_append_right _ (List.mem_append_right _ (List.mem_append_right _ (List.mem_of_getElem? (i := 80) rfl)))))) rfl
theorem zl_M_fits : Cond.selects "ThinkNumberModel" K_M_fits.1 K_M_fits.1 ∈ tb := tb_in (List.mem_append_right _ (List.mem_append_right _ (List.mem_append_right _ (List.mem_append_right _ (List.mem_append_right _ (List.mem_of_getElem? (i := 81) rfl)))))) rfl
theorem zs_M_isFit : Cond.instanceMethod K_M_isFit.1 ∈ tb := tb_in (List.mem_append_right _ (List.mem_append_right _ (List.mem_append_right _ (List.mem_append_right _ (List.mem_append_right _ (List.mem_of_getElem? (i := 85) rfl)))))) rfl
theorem zl_M_isFit : Cond.selects "ThinkNumberModel" K_M_isFit.1 K_M_isFit.1 ∈ tb := tb_sel (List.mem_of_getElem? (i := 67) (by decide +kernel)) rfl
theorem zs_M_more : Cond.instanceMethod K_M_more.1 ∈ tb := tb_in (List.mem_append_right _ (List.mem_append_right _ (List.mem_append_right _ (List.mem_append_right _ (List.mem_append_right _ (List.mem_of_getElem? (i := 88) rfl)))))) rfl
theorem zl_M_more : Cond.selects "ThinkNumberModel" K_M_more.1 K_M_more.1 ∈ tb := tb_in (List.mem_append_right _ (List.mem_append_right _ (List.mem_append_right _ (List.mem_append_right _ (List.mem_append_right _ (List.mem_of_getElem? (i := 89) rfl)))))) rfl
theorem zs_M_layAll : Cond.instanceMethod K_M_layAll.1 ∈ tb := tb_in (List.mem_append_right _ (List.mem_append_right _ (List.mem_append_right _ (List.mem_append_right _ (List.mem_append_right _ (List.mem_of_getElem? (i := 93) rfl)))))) rfl
theorem zl_M_layAll : Cond.selects "ThinkNumberModel" K_M_layAll.1 K_M_layAll.1 ∈ tb := tb_sel (List.mem_of_getElem? (i := 68) (by decide +kernel)) rfl
theorem zs_M_areUnlike : Cond.instanceMethod K_M_areUnlike.1 ∈ tb := tb_in (List.mem_append_right _ (List.mem_append_right _ (List.mem_append_right _ (List.mem_append_right _ (List.mem_append_right _ (List.mem_of_getElem? (i := 97) rfl)))))) rfl
theorem zl_M_areUnlike : Cond.selects "ThinkNumberModel" K_M_areUnlike.1 K_M_areUnlike.1 ∈ tb := tb_sel (List.mem_of_getElem? (i := 69) (by decide +kernel)) rfl
theorem zs_M_sumOf : Cond.instanceMethod K_M_sumOf.1 ∈ tb := tb_in (List.mem_append_right _ (List.mem_append_right _ (List.mem_append_right _ (List.mem_append_right _ (List.mem_append_right _ (List.mem_of_getElem? (i := 101) rfl)))))) rfl
theorem zl_M_sumOf : Cond.selects "ThinkNumberModel" K_M_sumOf.1 K_M_sumOf.1 ∈ tb := tb_sel (List.mem_of_getElem? (i := 70) (by decide +kernel)) rfl
theorem zs_M_isAlike : Cond.instanceMethod K_M_isAlike.1 ∈ tb := tb_in (List.mem_append_right _ (List.mem_append_right _ (List.mem_append_right _ (List.mem_append_right _ (List.mem_append_right _ (List.mem_of_getElem? (i := 109) rfl)))))) rfl
theorem zl_M_isAlike : Cond.selects "ThinkNumberModel" K_M_isAlike.1 K_M_isAlike.1 ∈ tb := tb_sel (List.mem_of_getElem? (i := 71) (by decide +kernel)) rfl
theorem zs_M_kit : Cond.instanceMethod K_M_kit.1 ∈ tb := tb_in (List.mem_append_right _ (List.mem_append_right _ (List.mem_append_right _ (List.mem_append_right _ (List.mem_append_right _ (List.mem_of_getElem? (i := 112) rfl)))))) rfl
theorem zl_M_kit : Cond.selects "ThinkNumberModel" K_M_kit.1 K_M_kit.1 ∈ tb := tb_in (List.mem_append_right _ (List.mem_append_right _ (List.mem_append_right _ (List.mem_append_right _ (List.mem_append_right _ (List.mem_of_getElem? (i := 113) rfl)))))) rfl
theorem zs_M_made : Cond.instanceMethod K_M_made.1 ∈ tb := tb_in (List.mem_append_right _ (List.mem_append_right _ (List.mem_append_right _ (List.mem_append_right _ (List.mem_append_right _ (List.mem_of_getElem? (i := 116) rfl)))))) rfl
theorem zl_M_made : Cond.selects "ThinkNumberModel" K_M_made.1 K_M_made.1 ∈ tb := tb_in (List.mem_append_right _ (List.mem_append_right _ (List.mem_append_right _ (List.mem_append_right _ (List.mem_append_right _ (List.mem_of_getElem? (i := 117) rfl)))))) rfl
theorem zs_M_isMade : Cond.instanceMethod K_M_isMade.1 ∈ tb := tb_in (List.mem_append_right _ (List.mem_append_right _ (List.mem_append_right _ (List.mem_append_right _ (List.mem_append_right _ (List.mem_of_getElem? (i := 121) rfl)))))) rfl
theorem zl_M_isMade : Cond.selects "ThinkNumberModel" K_M_isMade.1 K_M_isMade.1 ∈ tb := tb_sel (List.mem_of_getElem? (i := 72) (by decide +kernel)) rfl
theorem zs_M_leadsAll : Cond.instanceMethod K_M_leadsAll.1 ∈ tb := tb_in (List.mem_append_right _ (List.mem_append_right _ (List.mem_append_right _ (List.mem_append_right _ (List.mem_append_right _ (List.mem_of_getElem? (i := 125) rfl)))))) rfl
theorem zl_M_leadsAll : Cond.selects "ThinkNumberModel" K_M_leadsAll.1 K_M_leadsAll.1 ∈ tb := tb_sel (List.mem_of_getElem? (i := 73) (by decide +kernel)) rfl
theorem zs_M_leads : Cond.instanceMethod K_M_leads.1 ∈ tb := tb_in (List.mem_append_right _ (List.mem_append_right _ (List.mem_append_right _ (List.mem_append_right _ (List.mem_append_right _ (List.mem_of_getElem? (i := 129) rfl)))))) rfl
theorem zl_M_leads : Cond.selects "ThinkNumberModel" K_M_leads.1 K_M_leads.1 ∈ tb := tb_sel (List.mem_of_getElem? (i := 74) (by decide +kernel)) rfl
theorem zs_M_slip : Cond.instanceMethod K_M_slip.1 ∈ tb := tb_in (List.mem_append_right _ (List.mem_append_right _ (List.mem_append_right _ (List.mem_append_right _ (List.mem_append_right _ (List.mem_of_getElem? (i := 132) rfl)))))) rfl
theorem zl_M_slip : Cond.selects "ThinkNumberModel" K_M_slip.1 K_M_slip.1 ∈ tb := tb_in (List.mem_append_right _ (List.mem_append_right _ (List.mem_append_right _ (List.mem_append_right _ (List.mem_append_right _ (List.mem_of_getElem? (i := 133) rfl)))))) rfl
theorem zs_M_isSlip : Cond.instanceMethod K_M_isSlip.1 ∈ tb := tb_in (List.mem_append_right _ (List.mem_append_right _ (List.mem_append_right _ (List.mem_append_right _ (List.mem_append_right _ (List.mem_of_getElem? (i := 137) rfl)))))) rfl
theorem zl_M_isSlip : Cond.selects "ThinkNumberModel" K_M_isSlip.1 K_M_isSlip.1 ∈ tb := tb_sel (List.mem_of_getElem? (i := 75) (by decide +kernel)) rfl
theorem zs_M_slips : Cond.instanceMethod K_M_slips.1 ∈ tb := tb_in (List.mem_append_right _ (List.mem_append_right _ (List.mem_append_right _ (List.mem_append_right _ (List.mem_append_right _ (List.mem_of_getElem? (i := 141) rfl)))))) rfl
theorem zl_M_slips : Cond.selects "ThinkNumberModel" K_M_slips.1 K_M_slips.1 ∈ tb := tb_sel (List.mem_of_getElem? (i := 76) (by decide +kernel)) rfl
theorem zs_M_turnedRound : Cond.static K_M_turnedRound.1 ∈ tb := tb_in (List.mem_append_right _ (List.mem_append_right _ (List.mem_append_right _ (List.mem_append_right _ (List.mem_append_right _ (List.mem_of_getElem? (i := 144) rfl)))))) rfl
theorem zs_M_ask : Cond.instanceMethod K_M_ask.1 ∈ tb := tb_in (List.mem_append_right _ (List.mem_append_right _ (List.mem_append_right _ (List.mem_append_right _ (List.mem_append_right _ (List.mem_of_getElem? (i := 147) rfl)))))) rfl
theorem zl_M_ask : Cond.selects "ThinkNumberModel" K_M_ask.1 K_M_ask.1 ∈ tb := tb_in (List.mem_append_right _ (List.mem_append_right _ (List.mem_append_right _ (List.mem_append_right _ (List.mem_append_right _ (List.mem_of_getElem? (i := 148) rfl)))))) rfl
theorem zs_M_known : Cond.instanceMethod K_M_known.1 ∈ tb := tb_in (List.mem_append_right _ (List.mem_append_right _ (List.mem_append_right _ (List.mem_append_right _ (List.mem_append_right _ (List.mem_of_getElem? (i := 151) rfl)))))) rfl
theorem zl_M_known : Cond.selects "ThinkNumberModel" K_M_known.1 K_M_known.1 ∈ tb := tb_in (List.mem_append_right _ (List.mem_append_right _ (List.mem_append_right _ (List.mem_append_right _ (List.mem_append_right _ (List.mem_of_getElem? (i := 152) rfl)))))) rfl
theorem zs_M_reckon : Cond.instanceMethod K_M_reckon.1 ∈ tb := tb_in (List.mem_append_right _ (List.mem_append_right _ (List.mem_append_right _ (List.mem_append_right _ (List.mem_append_right _ (List.mem_of_getElem? (i := 156) rfl)))))) rfl
theorem zl_M_reckon : Cond.selects "ThinkNumberModel" K_M_reckon.1 K_M_reckon.1 ∈ tb := tb_sel (List.mem_of_getElem? (i := 77) (by decide +kernel)) rfl
theorem zs_M_isLike : Cond.instanceMethod K_M_isLike.1 ∈ tb := tb_in (List.mem_append_right _ (List.mem_append_right _ (List.mem_append_right _ (List.mem_append_right _ (List.mem_append_right _ (List.mem_of_getElem? (i := 160) rfl)))))) rfl
theorem zl_M_isLike : Cond.selects "ThinkNumberModel" K_M_isLike.1 K_M_isLike.1 ∈ tb := tb_sel (List.mem_of_getElem? (i := 78) (by decide +kernel)) rfl
theorem zs_M_has : Cond.static K_M_has.1 ∈ tb := tb_in (List.mem_append_right _ (List.mem_append_right _ (List.mem_append_right _ (List.mem_append_right _ (List.mem_append_right _ (List.mem_of_getElem? (i := 163) rfl)))))) rfl
theorem zs_M_takesBy : Cond.instanceMethod K_M_takesBy.1 ∈ tb := tb_in (List.mem_append_right _ (List.mem_append_right _ (List.mem_append_right _ (List.mem_append_right _ (List.mem_append_right _ (List.mem_of_getElem? (i := 167) rfl)))))) rfl
theorem zl_M_takesBy : Cond.selects "ThinkNumberModel" K_M_takesBy.1 K_M_takesBy.1 ∈ tb := tb_sel (List.mem_of_getElem? (i := 79) (by decide +kernel)) rfl
theorem zs_M_rest : Cond.instanceMethod K_M_rest.1 ∈ tb := tb_in (List.mem_append_right _ (List.mem_append_right _ (List.mem_append_right _ (List.mem_append_right _ (List.mem_append_right _ (List.mem_of_getElem? (i := 170) rfl)))))) rfl
theorem zl_M_rest : Cond.selects "ThinkNumberModel" K_M_rest.1 K_M_rest.1 ∈ tb := tb_in (List.mem_append_right _ (List.mem_append_right _ (List.mem_append_right _ (List.mem_append_right _ (List.mem_append_right _ (List.mem_of_getElem? (i := 171) rfl)))))) rfl
theorem zs_M_hidden : Cond.instanceMethod K_M_hidden.1 ∈ tb := tb_in (List.mem_append_right _ (List.mem_append_right _ (List.mem_append_right _ (List.mem_append_right _ (List.mem_append_right _ (List.mem_of_getElem? (i := 175) rfl)))))) rfl
theorem zl_M_hidden : Cond.selects "ThinkNumberModel" K_M_hidden.1 K_M_hidden.1 ∈ tb := tb_sel (List.mem_of_getElem? (i := 80) (by decide +kernel)) rfl
theorem zs_M_restBy : Cond.instanceMethod K_M_restBy.1 ∈ tb := tb_in (List.mem_append_right _ (List.mem_append_right _ (List.mem_append_right _ (List.mem_append_right _ (List.mem_append_right _ (List.mem_of_getElem? (i := 179) rfl)))))) rfl
theorem zl_M_restBy : Cond.selects "ThinkNumberModel" K_M_restBy.1 K_M_restBy.1 ∈ tb := tb_sel (List.mem_of_getElem? (i := 81) (by decide +kernel)) rfl
theorem zs_M_struck : Cond.instanceMethod K_M_struck.1 ∈ tb := tb_in (List.mem_append_right _ (List.mem_append_right _ (List.mem_append_right _ (List.mem_append_right _ (List.mem_append_right _ (List.mem_of_getElem? (i := 182) rfl)))))) rfl
theorem zl_M_struck : Cond.selects "ThinkNumberModel" K_M_struck.1 K_M_struck.1 ∈ tb := tb_in (List.mem_append_right _ (List.mem_append_right _ (List.mem_append_right _ (List.mem_append_right _ (List.mem_append_right _ (List.mem_of_getElem? (i := 183) rfl)))))) rfl
theorem zs_M_play : Cond.instanceMethod K_M_play.1 ∈ tb := tb_in (List.mem_append_right _ (List.mem_append_right _ (List.mem_append_right _ (List.mem_append_right _ (List.mem_append_right _ (List.mem_of_getElem? (i := 186) rfl)))))) rfl
theorem zl_M_play : Cond.selects "ThinkNumberModel" K_M_play.1 K_M_play.1 ∈ tb := tb_in (List.mem_append_right _ (List.mem_append_right _ (List.mem_append_right _ (List.mem_append_right _ (List.mem_append_right _ (List.mem_of_getElem? (i := 187) rfl)))))) rfl
theorem zs_M_go : Cond.instanceMethod K_M_go.1 ∈ tb := tb_in (List.mem_append_right _ (List.mem_append_right _ (List.mem_append_right _ (List.mem_append_right _ (List.mem_append_right _ (List.mem_of_getElem? (i := 190) rfl)))))) rfl
theorem zl_M_go : Cond.selects "ThinkNumberModel" K_M_go.1 K_M_go.1 ∈ tb := tb_in (List.mem_append_right _ (List.mem_append_right _ (List.mem_append_right _ (List.mem_append_right _ (List.mem_append_right _ (List.mem_of_getElem? (i := 191) rfl)))))) rfl
theorem zs_M_keep : Cond.instanceMethod K_M_keep.1 ∈ tb := tb_in (List.mem_append_right _ (List.mem_append_right _ (List.mem_append_right _ (List.mem_append_right _ (List.mem_append_right _ (List.mem_of_getElem? (i := 195) rfl)))))) rfl
theorem zl_M_keep : Cond.selects "ThinkNumberModel" K_M_keep.1 K_M_keep.1 ∈ tb := tb_sel (List.mem_of_getElem? (i := 82) (by decide +kernel)) rfl
theorem zs_M_undo : Cond.instanceMethod K_M_undo.1 ∈ tb := tb_in (List.mem_append_right _ (List.mem_append_right _ (List.mem_append_right _ (List.mem_append_right _ (List.mem_append_right _ (List.mem_of_getElem? (i := 198) rfl)))))) rfl
theorem zl_M_undo : Cond.selects "ThinkNumberModel" K_M_undo.1 K_M_undo.1 ∈ tb := tb_in (List.mem_append_right _ (List.mem_append_right _ (List.mem_append_right _ (List.mem_append_right _ (List.mem_append_right _ (List.mem_of_getElem? (i := 199) rfl)))))) rfl
theorem zs_M_value : Cond.instanceMethod K_M_value.1 ∈ tb := tb_in (List.mem_append_right _ (List.mem_append_right _ (List.mem_append_right _ (List.mem_append_right _ (List.mem_append_right _ (List.mem_of_getElem? (i := 202) rfl)))))) rfl
theorem zl_M_value : Cond.selects "ThinkNumberModel" K_M_value.1 K_M_value.1 ∈ tb := tb_in (List.mem_append_right _ (List.mem_append_right _ (List.mem_append_right _ (List.mem_append_right _ (List.mem_append_right _ (List.mem_of_getElem? (i := 203) rfl)))))) rfl
theorem zs_M_image : Cond.instanceMethod K_M_image.1 ∈ tb := tb_in (List.mem_append_right _ (List.mem_append_right _ (List.mem_append_right _ (List.mem_append_right _ (List.mem_append_right _ (List.mem_of_getElem? (i := 206) rfl)))))) rfl
theorem zl_M_image : Cond.selects "ThinkNumberModel" K_M_image.1 K_M_image.1 ∈ tb := tb_in (List.mem_append_right _ (List.mem_append_right _ (List.mem_append_right _ (List.mem_append_right _ (List.mem_append_right _ (List.mem_of_getElem? (i := 207) rfl)))))) rfl
theorem zs_M_back : Cond.instanceMethod K_M_back.1 ∈ tb := tb_in (List.mem_append_right _ (List.mem_append_right _ (List.mem_append_right _ (List.mem_append_right _ (List.mem_append_right _ (List.mem_of_getElem? (i := 210) rfl)))))) rfl
theorem zl_M_back : Cond.selects "ThinkNumberModel" K_M_back.1 K_M_back.1 ∈ tb := tb_in (List.mem_append_right _ (List.mem_append_right _ (List.mem_append_right _ (List.mem_append_right _ (List.mem_append_right _ (List.mem_of_getElem? (i := 211) rfl)))))) rfl
theorem zs_M_about : Cond.instanceMethod K_M_about.1 ∈ tb := tb_in (List.mem_append_right _ (List.mem_append_right _ (List.mem_append_right _ (List.mem_append_right _ (List.mem_append_right _ (List.mem_of_getElem? (i := 214) rfl)))))) rfl
theorem zl_M_about : Cond.selects "ThinkNumberModel" K_M_about.1 K_M_about.1 ∈ tb := tb_in (List.mem_append_right _ (List.mem_append_right _ (List.mem_append_right _ (List.mem_append_right _ (List.mem_append_right _ (List.mem_of_getElem? (i := 215) rfl)))))) rfl
theorem zm_A_84 : zMS "ThinkNumber" 84 K_A_isNumber 1 := ⟨Or.inl (tb_in (List.mem_append_right _ (List.mem_append_left _ (List.mem_of_getElem? (i := 114) rfl))) rfl), zs_A_isNumber, zin_A, zy_A_isNumber, Nat.le_of_ble_eq_true rfl, by decide +kernel, by decide +kernel, by decide +kernel⟩
theorem zm_A_91 : zMV "ThinkNumber" 91 K_Tape_hasRoom 0 := ⟨Or.inl (tb_in (List.mem_append_right _ (List.mem_append_left _ (List.mem_of_getElem? (i := 121) rfl))) rfl), zs_Tape_hasRoom, zl_Tape_hasRoom, zin_Tape, zy_Tape_hasRoom, Nat.le_of_ble_eq_true rfl, by decide +kernel, by decide +kernel, by decide +kernel⟩
theorem zm_A_95 : zMV "ThinkNumber" 95 K_Tape_append 1 := ⟨Or.inl (tb_in (List.mem_append_right _ (List.mem_append_left _ (List.mem_of_getElem? (i := 125) rfl))) rfl), zs_Tape_append, zl_Tape_append, zin_Tape, zy_Tape_append, Nat.le_of_ble_eq_true rfl, by decide +kernel, by decide +kernel, by decide +kernel⟩
theorem zm_A_105 : zMV "ThinkNumber" 105 K_Reader_read 1 := ⟨Or.inl (tb_in (List.mem_append_right _ (List.mem_append_left _ (List.mem_of_getElem? (i := 137) rfl))) rfl), zs_Reader_read, zl_Reader_read, zin_Reader, zy_Reader_read, Nat.le_of_ble_eq_true rfl, by decide +kernel, by decide +kernel, by decide +kernel⟩
theorem zm_A_115 : zMV "ThinkNumber" 115 K_A_find 1 := ⟨Or.inl (tb_in (List.mem_append_right _ (List.mem_append_right _ (List.mem_append_left _ (List.mem_of_getElem? (i := 47) rfl)))) rfl), zs_A_find, zl_A_find, zin_A, zy_A_find, Nat.le_of_ble_eq_true rfl, by decide +kernel, by decide +kernel, by decide +kernel⟩
theorem zm_A_128 : zMV "ThinkNumber" 128 K_Orders_has 1 := ⟨Or.inl (tb_in (List.mem_append_right _ (List.mem_append_right _ (List.mem_append_left _ (List.mem_of_getElem? (i := 51) rfl)))) rfl), zs_Orders_has, zl_Orders_has, zin_Orders, zy_Orders_has, Nat.le_of_ble_eq_true rfl, by decide +kernel, by decide +kernel, by decide +kernel⟩
theorem zm_A_137 : zMS "ThinkNumber" 137 K_A_isLetter 1 := ⟨Or.inl (tb_in (List.mem_append_right _ (List.mem_append_right _ (List.mem_append_left _ (List.mem_of_getElem? (i := 59) rfl)))) rfl), zs_A_isLetter, zin_A, zy_A_isLetter, Nat.le_of_ble_eq_true rfl, by decide +kernel, by decide +kernel, by decide +kernel⟩
theorem zm_A_148 : zMV "ThinkNumber" 148 K_Table_run 3 := ⟨Or.inl (tb_in (List.mem_append_right _ (List.mem_append_right _ (List.mem_append_left _ (List.mem_of_getElem? (i := 65) rfl)))) rfl), zs_Table_run, zl_Table_run, zin_Table, zy_Table_run, Nat.le_of_ble_eq_true rfl, by decide +kernel, by decide +kernel, by decide +kernel⟩
theorem zm_A_152 : zMV "ThinkNumber" 152 K_Value_part 1 := ⟨Or.inl (tb_in (List.mem_append_right _ (List.mem_append_right _ (List.mem_append_left _ (List.mem_of_getElem? (i := 123) rfl)))) rfl), zs_Value_part, zl_Value_part, zin_Value, zy_Value_part, Nat.le_of_ble_eq_true rfl, by decide +kernel, by decide +kernel, by decide +kernel⟩
theorem zm_A_156 : zMV "ThinkNumber" 156 K_Table_begin 2 := ⟨Or.inl (tb_in (List.mem_append_right _ (List.mem_append_right _ (List.mem_append_left _ (List.mem_of_getElem? (i := 135) rfl)))) rfl), zs_Table_begin, zl_Table_begin, zin_Table, zy_Table_begin, Nat.le_of_ble_eq_true rfl, by decide +kernel, by decide +kernel, by decide +kernel⟩
theorem zm_A_160 : zMV "ThinkNumber" 160 K_Orders_amount 2 := ⟨Or.inl (tb_in (List.mem_append_right _ (List.mem_append_right _ (List.mem_append_left _ (List.mem_of_getElem? (i := 136) rfl)))) rfl), zs_Orders_amount, zl_Orders_amount, zin_Orders, zy_Orders_amount, Nat.le_of_ble_eq_true rfl, by decide +kernel, by decide +kernel, by decide +kernel⟩
theorem zm_A_164 : zMV "ThinkNumber" 164 K_Value_obey 2 := ⟨Or.inl (tb_in (List.mem_append_right _ (List.mem_append_right _ (List.mem_append_left _ (List.mem_of_getElem? (i := 137) rfl)))) rfl), zs_Value_obey, zl_Value_obey, zin_Value, zy_Value_obey, Nat.le_of_ble_eq_true rfl, by decide +kernel, by decide +kernel, by decide +kernel⟩
theorem zm_A_172 : zMV "ThinkNumber" 172 K_Values_tell 3 := ⟨Or.inl (tb_in (List.mem_append_right _ (List.mem_append_right _ (List.mem_append_left _ (List.mem_of_getElem? (i := 142) rfl)))) rfl), zs_Values_tell, zl_Values_tell, zin_Values, zy_Values_tell, Nat.le_of_ble_eq_true rfl, by decide +kernel, by decide +kernel, by decide +kernel⟩
theorem zm_A_185 : zMV "ThinkNumber" 185 K_Values_holds 2 := ⟨Or.inl (tb_in (List.mem_append_right _ (List.mem_append_right _ (List.mem_append_left _ (List.mem_of_getElem? (i := 162) rfl)))) rfl), zs_Values_holds, zl_Values_holds, zin_Values, zy_Values_holds, Nat.le_of_ble_eq_true rfl, by decide +kernel, by decide +kernel, by decide +kernel⟩
theorem zm_A_189 : zMV "ThinkNumber" 189 K_Table_countAll 0 := ⟨Or.inl (tb_in (List.mem_append_right _ (List.mem_append_right _ (List.mem_append_left _ (List.mem_of_getElem? (i := 174) rfl)))) rfl), zs_Table_countAll, zl_Table_countAll, zin_Table, zy_Table_countAll, Nat.le_of_ble_eq_true rfl, by decide +kernel, by decide +kernel, by decide +kernel⟩
theorem zm_A_195 : zMV "ThinkNumber" 195 K_A_findUnlike 1 := ⟨Or.inl (tb_in (List.mem_append_right _ (List.mem_append_right _ (List.mem_append_left _ (List.mem_of_getElem? (i := 179) rfl)))) rfl), zs_A_findUnlike, zl_A_findUnlike, zin_A, zy_A_findUnlike, Nat.le_of_ble_eq_true rfl, by decide +kernel, by decide +kernel, by decide +kernel⟩
theorem zm_A_198 : zMV "ThinkNumber" 198 K_Sum_prove 1 := ⟨Or.inl (tb_in (List.mem_append_right _ (List.mem_append_right _ (List.mem_append_left _ (List.mem_of_getElem? (i := 212) rfl)))) rfl), zs_Sum_prove, zl_Sum_prove, zin_Sum, zy_Sum_prove, Nat.le_of_ble_eq_true rfl, by decide +kernel, by decide +kernel, by decide +kernel⟩
theorem zm_A_212 : zMV "ThinkNumber" 212 K_Tally_clear 0 := ⟨Or.inl (tb_in (List.mem_append_right _ (List.mem_append_right _ (List.mem_append_right _ (List.mem_append_left _ (List.mem_of_getElem? (i := 13) rfl))))) rfl), zs_Tally_clear, zl_Tally_clear, zin_Tally, zy_Tally_clear, Nat.le_of_ble_eq_true rfl, by decide +kernel, by decide +kernel, by decide +kernel⟩
theorem zm_A_215 : zMV "ThinkNumber" 215 K_Table_firstOfAll 1 := ⟨Or.inl (tb_in (List.mem_append_right _ (List.mem_append_right _ (List.mem_append_left _ (List.mem_of_getElem? (i := 183) rfl)))) rfl), zs_Table_firstOfAll, zl_Table_firstOfAll, zin_Table, zy_Table_firstOfAll, Nat.le_of_ble_eq_true rfl, by decide +kernel, by decide +kernel, by decide +kernel⟩
theorem zm_A_219 : zMV "ThinkNumber" 219 K_Table_saysJust 3 := ⟨Or.inl (tb_in (List.mem_append_right _ (List.mem_append_right _ (List.mem_append_right _ (List.mem_append_left _ (List.mem_of_getElem? (i := 18) rfl))))) rfl), zs_Table_saysJust, zl_Table_saysJust, zin_Table, zy_Table_saysJust, Nat.le_of_ble_eq_true rfl, by decide +kernel, by decide +kernel, by decide +kernel⟩
theorem zm_A_223 : zMV "ThinkNumber" 223 K_Tally_note 1 := ⟨Or.inl (tb_in (List.mem_append_right _ (List.mem_append_right _ (List.mem_append_right _ (List.mem_append_left _ (List.mem_of_getElem? (i := 23) rfl))))) rfl), zs_Tally_note, zl_Tally_note, zin_Tally, zy_Tally_note, Nat.le_of_ble_eq_true rfl, by decide +kernel, by decide +kernel, by decide +kernel⟩
theorem zm_A_226 : zMV "ThinkNumber" 226 K_Table_nextOfAll 1 := ⟨Or.inl (tb_in (List.mem_append_right _ (List.mem_append_right _ (List.mem_append_left _ (List.mem_of_getElem? (i := 200) rfl)))) rfl), zs_Table_nextOfAll, zl_Table_nextOfAll, zin_Table, zy_Table_nextOfAll, Nat.le_of_ble_eq_true rfl, by decide +kernel, by decide +kernel, by decide +kernel⟩
theorem zm_A_230 : zMV "ThinkNumber" 230 K_Tally_pick 1 := ⟨Or.inl (tb_in (List.mem_append_right _ (List.mem_append_right _ (List.mem_append_right _ (List.mem_append_left _ (List.mem_of_getElem? (i := 30) rfl))))) rfl), zs_Tally_pick, zl_Tally_pick, zin_Tally, zy_Tally_pick, Nat.le_of_ble_eq_true rfl, by decide +kernel, by decide +kernel, by decide +kernel⟩
theorem zm_A_236 : zMV "ThinkNumber" 236 K_Parting_lowestTelling 4 := ⟨Or.inl (tb_in (List.mem_append_right _ (List.mem_append_right _ (List.mem_append_right _ (List.mem_append_left _ (List.mem_of_getElem? (i := 39) rfl))))) rfl), zs_Parting_lowestTelling, zl_Parting_lowestTelling, zin_Parting, zy_Parting_lowestTelling, Nat.le_of_ble_eq_true rfl, by decide +kernel, by decide +kernel, by decide +kernel⟩
theorem zm_A_243 : zMV "ThinkNumber" 243 K_Orders_add 2 := ⟨Or.inl (tb_in (List.mem_append_right _ (List.mem_append_right _ (List.mem_append_right _ (List.mem_append_left _ (List.mem_of_getElem? (i := 80) rfl))))) rfl), zs_Orders_add, zl_Orders_add, zin_Orders, zy_Orders_add, Nat.le_of_ble_eq_true rfl, by decide +kernel, by decide +kernel, by decide +kernel⟩
theorem zm_A_246 : zMV "ThinkNumber" 246 K_Maker_fewest 5 := ⟨Or.inl (tb_in (List.mem_append_right _ (List.mem_append_right _ (List.mem_append_right _ (List.mem_append_left _ (List.mem_of_getElem? (i := 85) rfl))))) rfl), zs_Maker_fewest, zl_Maker_fewest, zin_Maker, zy_Maker_fewest, Nat.le_of_ble_eq_true rfl, by decide +kernel, by decide +kernel, by decide +kernel⟩
theorem zm_A_253 : zMS "ThinkNumber" 253 K_A_isTold 2 := ⟨Or.inl (tb_in (List.mem_append_right _ (List.mem_append_right _ (List.mem_append_right _ (List.mem_append_left _ (List.mem_of_getElem? (i := 105) rfl))))) rfl), zs_A_isTold, zin_A, zy_A_isTold, Nat.le_of_ble_eq_true rfl, by decide +kernel, by decide +kernel, by decide +kernel⟩
theorem zm_A_256 : zMV "ThinkNumber" 256 K_Value_put 2 := ⟨Or.inl (tb_in (List.mem_append_right _ (List.mem_append_right _ (List.mem_append_right _ (List.mem_append_left _ (List.mem_of_getElem? (i := 106) rfl))))) rfl), zs_Value_put, zl_Value_put, zin_Value, zy_Value_put, Nat.le_of_ble_eq_true rfl, by decide +kernel, by decide +kernel, by decide +kernel⟩
theorem zm_A_260 : zMV "ThinkNumber" 260 K_Table_runWithSlip 3 := ⟨Or.inl (tb_in (List.mem_append_right _ (List.mem_append_right _ (List.mem_append_right _ (List.mem_append_left _ (List.mem_of_getElem? (i := 107) rfl))))) rfl), zs_Table_runWithSlip, zl_Table_runWithSlip, zin_Table, zy_Table_runWithSlip, Nat.le_of_ble_eq_true rfl, by decide +kernel, by decide +kernel, by decide +kernel⟩
theorem zm_A_268 : zMV "ThinkNumber" 268 K_Value_is 2 := ⟨Or.inl (tb_in (List.mem_append_right _ (List.mem_append_right _ (List.mem_append_left _ (List.mem_of_getElem? (i := 199) rfl)))) rfl), zs_Value_is, zl_Value_is, zin_Value, zy_Value_is, Nat.le_of_ble_eq_true rfl, by decide +kernel, by decide +kernel, by decide +kernel⟩
theorem zm_A_277 : zMV "ThinkNumber" 277 K_A_fewestAsks 2 := ⟨Or.inl (tb_in (List.mem_append_right _ (List.mem_append_right _ (List.mem_append_right _ (List.mem_append_left _ (List.mem_of_getElem? (i := 122) rfl))))) rfl), zs_A_fewestAsks, zl_A_fewestAsks, zin_A, zy_A_fewestAsks, Nat.le_of_ble_eq_true rfl, by decide +kernel, by decide +kernel, by decide +kernel⟩
theorem zm_A_280 : zMV "ThinkNumber" 280 K_A_lowestFirstAsk 2 := ⟨Or.inl (tb_in (List.mem_append_right _ (List.mem_append_right _ (List.mem_append_right _ (List.mem_append_left _ (List.mem_of_getElem? (i := 140) rfl))))) rfl), zs_A_lowestFirstAsk, zl_A_lowestFirstAsk, zin_A, zy_A_lowestFirstAsk, Nat.le_of_ble_eq_true rfl, by decide +kernel, by decide +kernel, by decide +kernel⟩
theorem zm_A_283 : zMV "ThinkNumber" 283 K_Tape_marks 0 := ⟨Or.inl (tb_in (List.mem_append_right _ (List.mem_append_right _ (List.mem_append_right _ (List.mem_append_left _ (List.mem_of_getElem? (i := 148) rfl))))) rfl), zs_Tape_marks, zl_Tape_marks, zin_Tape, zy_Tape_marks, Nat.le_of_ble_eq_true rfl, by decide +kernel, by decide +kernel, by decide +kernel⟩
theorem zm_A_287 : zMV "ThinkNumber" 287 K_Tape_restBy 2 := ⟨Or.inl (tb_in (List.mem_append_right _ (List.mem_append_right _ (List.mem_append_right _ (List.mem_append_left _ (List.mem_of_getElem? (i := 152) rfl))))) rfl), zs_Tape_restBy, zl_Tape_restBy, zin_Tape, zy_Tape_restBy, Nat.le_of_ble_eq_true rfl, by decide +kernel, by decide +kernel, by decide +kernel⟩
theorem zm_A_296 : zMV "ThinkNumber" 296 K_Values_append 1 := ⟨Or.inl (tb_in (List.mem_append_right _ (List.mem_append_right _ (List.mem_append_right _ (List.mem_append_left _ (List.mem_of_getElem? (i := 164) rfl))))) rfl), zs_Values_append, zl_Values_append, zin_Values, zy_Values_append, Nat.le_of_ble_eq_true rfl, by decide +kernel, by decide +kernel, by decide +kernel⟩
theorem zm_A_299 : zMV "ThinkNumber" 299 K_State_ordersPlayed 0 := ⟨Or.inl (tb_in (List.mem_append_right _ (List.mem_append_right _ (List.mem_append_right _ (List.mem_append_left _ (List.mem_of_getElem? (i := 169) rfl))))) rfl), zs_State_ordersPlayed, zl_State_ordersPlayed, zin_State, zy_State_ordersPlayed, Nat.le_of_ble_eq_true rfl, by decide +kernel, by decide +kernel, by decide +kernel⟩
theorem zm_A_302 : zMV "ThinkNumber" 302 K_Values_readLast 1 := ⟨Or.inl (tb_in (List.mem_append_right _ (List.mem_append_right _ (List.mem_append_right _ (List.mem_append_left _ (List.mem_of_getElem? (i := 174) rfl))))) rfl), zs_Values_readLast, zl_Values_readLast, zin_Values, zy_Values_readLast, Nat.le_of_ble_eq_true rfl, by decide +kernel, by decide +kernel, by decide +kernel⟩
theorem zm_A_306 : zMV "ThinkNumber" 306 K_State_copyFrom 1 := ⟨Or.inl (tb_in (List.mem_append_right _ (List.mem_append_right _ (List.mem_append_right _ (List.mem_append_left _ (List.mem_of_getElem? (i := 191) rfl))))) rfl), zs_State_copyFrom, zl_State_copyFrom, zin_State, zy_State_copyFrom, Nat.le_of_ble_eq_true rfl, by decide +kernel, by decide +kernel, by decide +kernel⟩
theorem zm_A_310 : zMV "ThinkNumber" 310 K_Table_comesToEnd 2 := ⟨Or.inl (tb_in (List.mem_append_right _ (List.mem_append_right _ (List.mem_append_left _ (List.mem_of_getElem? (i := 190) rfl)))) rfl), zs_Table_comesToEnd, zl_Table_comesToEnd, zin_Table, zy_Table_comesToEnd, Nat.le_of_ble_eq_true rfl, by decide +kernel, by decide +kernel, by decide +kernel⟩
theorem zm_A_314 : zMV "ThinkNumber" 314 K_Value_copyFrom 1 := ⟨Or.inl (tb_in (List.mem_append_right _ (List.mem_append_right _ (List.mem_append_left _ (List.mem_of_getElem? (i := 195) rfl)))) rfl), zs_Value_copyFrom, zl_Value_copyFrom, zin_Value, zy_Value_copyFrom, Nat.le_of_ble_eq_true rfl, by decide +kernel, by decide +kernel, by decide +kernel⟩
theorem zm_A_316 : zMS "ThinkNumber" 316 K_JInt_bitCount 1 := ⟨Or.inl (tb_in (List.mem_append_right _ (List.mem_append_right _ (List.mem_append_right _ (List.mem_append_left _ (List.mem_of_getElem? (i := 126) rfl))))) rfl), zs_JInt_bitCount, zin_JInt, zy_JInt_bitCount, Nat.le_of_ble_eq_true rfl, by decide +kernel, by decide +kernel, by decide +kernel⟩
theorem zm_A_321 : zMV "ThinkNumber" 321 K_A_mostAsksBehind 3 := ⟨Or.inl (tb_in (List.mem_append_right _ (List.mem_append_right _ (List.mem_append_right _ (List.mem_append_left _ (List.mem_of_getElem? (i := 132) rfl))))) rfl), zs_A_mostAsksBehind, zl_A_mostAsksBehind, zin_A, zy_A_mostAsksBehind, Nat.le_of_ble_eq_true rfl, by decide +kernel, by decide +kernel, by decide +kernel⟩
theorem zm_A_325 : zMS "ThinkNumber" 325 K_A_multiplesOf 1 := ⟨Or.inl (tb_in (List.mem_append_right _ (List.mem_append_right _ (List.mem_append_right _ (List.mem_append_left _ (List.mem_of_getElem? (i := 136) rfl))))) rfl), zs_A_multiplesOf, zin_A, zy_A_multiplesOf, Nat.le_of_ble_eq_true rfl, by decide +kernel, by decide +kernel, by decide +kernel⟩
theorem zm_Maker_46 : zMV "ThinkNumber$Maker" 46 K_Maker_reaches 3 := ⟨Or.inl (tb_in (List.mem_append_right _ (List.mem_append_right _ (List.mem_append_right _ (List.mem_append_left _ (List.mem_of_getElem? (i := 90) rfl))))) rfl), zs_Maker_reaches, zl_Maker_reaches, zin_Maker, zy_Maker_reaches, Nat.le_of_ble_eq_true rfl, by decide +kernel, by decide +kernel, by decide +kernel⟩
theorem zm_Maker_55 : zMV "ThinkNumber$Maker" 55 K_Maker_spread 4 := ⟨Or.inl (tb_in (List.mem_append_right _ (List.mem_append_right _ (List.mem_append_right _ (List.mem_append_left _ (List.mem_of_getElem? (i := 94) rfl))))) rfl), zs_Maker_spread, zl_Maker_spread, zin_Maker, zy_Maker_spread, Nat.le_of_ble_eq_true rfl, by decide +kernel, by decide +kernel, by decide +kernel⟩
theorem zm_Maker_59 : zMV "ThinkNumber$Maker" 59 K_Value_setWhole 1 := ⟨Or.inl (tb_in (List.mem_append_right _ (List.mem_append_right _ (List.mem_append_right _ (List.mem_append_left _ (List.mem_of_getElem? (i := 98) rfl))))) rfl), zs_Value_setWhole, zl_Value_setWhole, zin_Value, zy_Value_setWhole, Nat.le_of_ble_eq_true rfl, by decide +kernel, by decide +kernel, by decide +kernel⟩
theorem zm_Maker_66 : zMV "ThinkNumber$Maker" 66 K_Orders_amount 2 := ⟨Or.inl (tb_in (List.mem_append_right _ (List.mem_append_right _ (List.mem_append_right _ (List.mem_append_left _ (List.mem_of_getElem? (i := 99) rfl))))) rfl), zs_Orders_amount, zl_Orders_amount, zin_Orders, zy_Orders_amount, Nat.le_of_ble_eq_true rfl, by decide +kernel, by decide +kernel, by decide +kernel⟩
theorem zm_Maker_70 : zMV "ThinkNumber$Maker" 70 K_Value_obey 2 := ⟨Or.inl (tb_in (List.mem_append_right _ (List.mem_append_right _ (List.mem_append_right _ (List.mem_append_left _ (List.mem_of_getElem? (i := 100) rfl))))) rfl), zs_Value_obey, zl_Value_obey, zin_Value, zy_Value_obey, Nat.le_of_ble_eq_true rfl, by decide +kernel, by decide +kernel, by decide +kernel⟩
theorem zm_Orders_22 : zMS "ThinkNumber$Orders" 22 K_A_isLetter 1 := ⟨Or.inr ⟨_, List.mem_filter.mpr ⟨List.mem_append_right _ (List.mem_append_right _ (List.mem_append_left _ (List.mem_of_getElem? (i := 85) rfl))), rfl⟩⟩, zs_A_isLetter, zin_A, zy_A_isLetter, Nat.le_of_ble_eq_true rfl, by decide +kernel, by decide +kernel, by decide +kernel⟩
theorem zm_Parting_38 : zMV "ThinkNumber$Parting" 38 K_Parting_groupBySaid 3 := ⟨Or.inl (tb_in (List.mem_append_right _ (List.mem_append_right _ (List.mem_append_right _ (List.mem_append_left _ (List.mem_of_getElem? (i := 44) rfl))))) rfl), zs_Parting_groupBySaid, zl_Parting_groupBySaid, zin_Parting, zy_Parting_groupBySaid, Nat.le_of_ble_eq_true rfl, by decide +kernel, by decide +kernel, by decide +kernel⟩
theorem zm_Parting_42 : zMV "ThinkNumber$Parting" 42 K_Parting_startAll 3 := ⟨Or.inl (tb_in (List.mem_append_right _ (List.mem_append_right _ (List.mem_append_right _ (List.mem_append_left _ (List.mem_of_getElem? (i := 49) rfl))))) rfl), zs_Parting_startAll, zl_Parting_startAll, zin_Parting, zy_Parting_startAll, Nat.le_of_ble_eq_true rfl, by decide +kernel, by decide +kernel, by decide +kernel⟩
theorem zm_Parting_57 : zMV "ThinkNumber$Parting" 57 K_Parting_stepAll 4 := ⟨Or.inl (tb_in (List.mem_append_right _ (List.mem_append_right _ (List.mem_append_right _ (List.mem_append_left _ (List.mem_of_getElem? (i := 56) rfl))))) rfl), zs_Parting_stepAll, zl_Parting_stepAll, zin_Parting, zy_Parting_stepAll, Nat.le_of_ble_eq_true rfl, by decide +kernel, by decide +kernel, by decide +kernel⟩
theorem zm_Parting_61 : zMV "ThinkNumber$Parting" 61 K_Parting_countGroups 0 := ⟨Or.inl (tb_in (List.mem_append_right _ (List.mem_append_right _ (List.mem_append_right _ (List.mem_append_left _ (List.mem_of_getElem? (i := 62) rfl))))) rfl), zs_Parting_countGroups, zl_Parting_countGroups, zin_Parting, zy_Parting_countGroups, Nat.le_of_ble_eq_true rfl, by decide +kernel, by decide +kernel, by decide +kernel⟩
theorem zm_Parting_65 : zMS "ThinkNumber$Parting" 65 K_JArr_fillI 2 := ⟨Or.inl (tb_in (List.mem_append_right _ (List.mem_append_right _ (List.mem_append_right _ (List.mem_append_left _ (List.mem_of_getElem? (i := 48) rfl))))) rfl), zs_JArr_fillI, zin_JArr, zy_JArr_fillI, Nat.le_of_ble_eq_true rfl, by decide +kernel, by decide +kernel, by decide +kernel⟩
theorem zm_Parting_80 : zMV "ThinkNumber$Parting" 80 K_Table_firstOfAll 1 := ⟨Or.inl (tb_in (List.mem_append_right _ (List.mem_append_right _ (List.mem_append_right _ (List.mem_append_left _ (List.mem_of_getElem? (i := 53) rfl))))) rfl), zs_Table_firstOfAll, zl_Table_firstOfAll, zin_Table, zy_Table_firstOfAll, Nat.le_of_ble_eq_true rfl, by decide +kernel, by decide +kernel, by decide +kernel⟩
theorem zm_Parting_84 : zMV "ThinkNumber$Parting" 84 K_Table_begin 2 := ⟨Or.inl (tb_in (List.mem_append_right _ (List.mem_append_right _ (List.mem_append_right _ (List.mem_append_left _ (List.mem_of_getElem? (i := 54) rfl))))) rfl), zs_Table_begin, zl_Table_begin, zin_Table, zy_Table_begin, Nat.le_of_ble_eq_true rfl, by decide +kernel, by decide +kernel, by decide +kernel⟩
theorem zm_Parting_97 : zMV "ThinkNumber$Parting" 97 K_Table_nextOfAll 1 := ⟨Or.inl (tb_in (List.mem_append_right _ (List.mem_append_right _ (List.mem_append_right _ (List.mem_append_left _ (List.mem_of_getElem? (i := 55) rfl))))) rfl), zs_Table_nextOfAll, zl_Table_nextOfAll, zin_Table, zy_Table_nextOfAll, Nat.le_of_ble_eq_true rfl, by decide +kernel, by decide +kernel, by decide +kernel⟩
theorem zm_Parting_100 : zMV "ThinkNumber$Parting" 100 K_Orders_amount 2 := ⟨Or.inl (tb_in (List.mem_append_right _ (List.mem_append_right _ (List.mem_append_right _ (List.mem_append_left _ (List.mem_of_getElem? (i := 60) rfl))))) rfl), zs_Orders_amount, zl_Orders_amount, zin_Orders, zy_Orders_amount, Nat.le_of_ble_eq_true rfl, by decide +kernel, by decide +kernel, by decide +kernel⟩
theorem zm_Parting_104 : zMV "ThinkNumber$Parting" 104 K_Value_obey 2 := ⟨Or.inl (tb_in (List.mem_append_right _ (List.mem_append_right _ (List.mem_append_right _ (List.mem_append_left _ (List.mem_of_getElem? (i := 61) rfl))))) rfl), zs_Value_obey, zl_Value_obey, zin_Value, zy_Value_obey, Nat.le_of_ble_eq_true rfl, by decide +kernel, by decide +kernel, by decide +kernel⟩
theorem zm_Parting_108 : zMV "ThinkNumber$Parting" 108 K_Parting_seat 1 := ⟨Or.inl (tb_in (List.mem_append_right _ (List.mem_append_right _ (List.mem_append_right _ (List.mem_append_left _ (List.mem_of_getElem? (i := 66) rfl))))) rfl), zs_Parting_seat, zl_Parting_seat, zin_Parting, zy_Parting_seat, Nat.le_of_ble_eq_true rfl, by decide +kernel, by decide +kernel, by decide +kernel⟩
theorem zm_Reader_25 : zMV "ThinkNumber$Reader" 25 K_Table_clear 0 := ⟨Or.inl (tb_in (List.mem_append_right _ (List.mem_append_left _ (List.mem_of_getElem? (i := 141) rfl))) rfl), zs_Table_clear, zl_Table_clear, zin_Table, zy_Table_clear, Nat.le_of_ble_eq_true rfl, by decide +kernel, by decide +kernel, by decide +kernel⟩
theorem zm_Reader_30 : zMV "ThinkNumber$Reader" 30 K_Reader_advance 0 := ⟨Or.inl (tb_in (List.mem_append_right _ (List.mem_append_left _ (List.mem_of_getElem? (i := 148) rfl))) rfl), zs_Reader_advance, zl_Reader_advance, zin_Reader, zy_Reader_advance, Nat.le_of_ble_eq_true rfl, by decide +kernel, by decide +kernel, by decide +kernel⟩
theorem zm_Reader_36 : zMV "ThinkNumber$Reader" 36 K_Reader_readClause 2 := ⟨Or.inl (tb_in (List.mem_append_right _ (List.mem_append_left _ (List.mem_of_getElem? (i := 155) rfl))) rfl), zs_Reader_readClause, zl_Reader_readClause, zin_Reader, zy_Reader_readClause, Nat.le_of_ble_eq_true rfl, by decide +kernel, by decide +kernel, by decide +kernel⟩
theorem zm_Reader_40 : zMV "ThinkNumber$Reader" 40 K_Reader_kindOfWord 0 := ⟨Or.inl (tb_in (List.mem_append_right _ (List.mem_append_left _ (List.mem_of_getElem? (i := 159) rfl))) rfl), zs_Reader_kindOfWord, zl_Reader_kindOfWord, zin_Reader, zy_Reader_kindOfWord, Nat.le_of_ble_eq_true rfl, by decide +kernel, by decide +kernel, by decide +kernel⟩
theorem zm_Reader_44 : zMV "ThinkNumber$Reader" 44 K_Reader_refuse 1 := ⟨Or.inl (tb_in (List.mem_append_right _ (List.mem_append_left _ (List.mem_of_getElem? (i := 229) rfl))) rfl), zs_Reader_refuse, zl_Reader_refuse, zin_Reader, zy_Reader_refuse, Nat.le_of_ble_eq_true rfl, by decide +kernel, by decide +kernel, by decide +kernel⟩
theorem zm_Reader_48 : zMV "ThinkNumber$Reader" 48 K_Reader_readHide 1 := ⟨Or.inl (tb_in (List.mem_append_right _ (List.mem_append_left _ (List.mem_of_getElem? (i := 233) rfl))) rfl), zs_Reader_readHide, zl_Reader_readHide, zin_Reader, zy_Reader_readHide, Nat.le_of_ble_eq_true rfl, by decide +kernel, by decide +kernel, by decide +kernel⟩
theorem zm_Reader_52 : zMV "ThinkNumber$Reader" 52 K_Reader_readArgument 2 := ⟨Or.inl (tb_in (List.mem_append_right _ (List.mem_append_right _ (List.mem_append_left _ (List.mem_of_getElem? (i := 27) rfl)))) rfl), zs_Reader_readArgument, zl_Reader_readArgument, zin_Reader, zy_Reader_readArgument, Nat.le_of_ble_eq_true rfl, by decide +kernel, by decide +kernel, by decide +kernel⟩
theorem zm_Reader_55 : zMV "ThinkNumber$Reader" 55 K_Reader_readSemicolon 0 := ⟨Or.inl (tb_in (List.mem_append_right _ (List.mem_append_right _ (List.mem_append_left _ (List.mem_of_getElem? (i := 23) rfl)))) rfl), zs_Reader_readSemicolon, zl_Reader_readSemicolon, zin_Reader, zy_Reader_readSemicolon, Nat.le_of_ble_eq_true rfl, by decide +kernel, by decide +kernel, by decide +kernel⟩
theorem zm_Reader_66 : zMV "ThinkNumber$Reader" 66 K_Orders_add 2 := ⟨Or.inl (tb_in (List.mem_append_right _ (List.mem_append_right _ (List.mem_append_left _ (List.mem_of_getElem? (i := 35) rfl)))) rfl), zs_Orders_add, zl_Orders_add, zin_Orders, zy_Orders_add, Nat.le_of_ble_eq_true rfl, by decide +kernel, by decide +kernel, by decide +kernel⟩
theorem zm_Reader_72 : zMV "ThinkNumber$Reader" 72 K_Reader_letterOfWord 0 := ⟨Or.inl (tb_in (List.mem_append_right _ (List.mem_append_left _ (List.mem_of_getElem? (i := 237) rfl))) rfl), zs_Reader_letterOfWord, zl_Reader_letterOfWord, zin_Reader, zy_Reader_letterOfWord, Nat.le_of_ble_eq_true rfl, by decide +kernel, by decide +kernel, by decide +kernel⟩
theorem zm_Reader_75 : zMV "ThinkNumber$Reader" 75 K_Table_isHidden 1 := ⟨Or.inl (tb_in (List.mem_append_right _ (List.mem_append_right _ (List.mem_append_left _ (List.mem_of_getElem? (i := 4) rfl)))) rfl), zs_Table_isHidden, zl_Table_isHidden, zin_Table, zy_Table_isHidden, Nat.le_of_ble_eq_true rfl, by decide +kernel, by decide +kernel, by decide +kernel⟩
theorem zm_Reader_80 : zMV "ThinkNumber$Reader" 80 K_Reader_readWord 1 := ⟨Or.inl (tb_in (List.mem_append_right _ (List.mem_append_right _ (List.mem_append_left _ (List.mem_of_getElem? (i := 10) rfl)))) rfl), zs_Reader_readWord, zl_Reader_readWord, zin_Reader, zy_Reader_readWord, Nat.le_of_ble_eq_true rfl, by decide +kernel, by decide +kernel, by decide +kernel⟩
theorem zm_Reader_84 : zMV "ThinkNumber$Reader" 84 K_Reader_readNumber 2 := ⟨Or.inl (tb_in (List.mem_append_right _ (List.mem_append_right _ (List.mem_append_left _ (List.mem_of_getElem? (i := 14) rfl)))) rfl), zs_Reader_readNumber, zl_Reader_readNumber, zin_Reader, zy_Reader_readNumber, Nat.le_of_ble_eq_true rfl, by decide +kernel, by decide +kernel, by decide +kernel⟩
theorem zm_Reader_96 : zMV "ThinkNumber$Reader" 96 K_Reader_readX 1 := ⟨Or.inl (tb_in (List.mem_append_right _ (List.mem_append_right _ (List.mem_append_left _ (List.mem_of_getElem? (i := 31) rfl)))) rfl), zs_Reader_readX, zl_Reader_readX, zin_Reader, zy_Reader_readX, Nat.le_of_ble_eq_true rfl, by decide +kernel, by decide +kernel, by decide +kernel⟩
theorem zm_Reader_99 : zMV "ThinkNumber$Reader" 99 K_Reader_numberOfDigits 0 := ⟨Or.inl (tb_in (List.mem_append_right _ (List.mem_append_right _ (List.mem_append_left _ (List.mem_of_getElem? (i := 18) rfl)))) rfl), zs_Reader_numberOfDigits, zl_Reader_numberOfDigits, zin_Reader, zy_Reader_numberOfDigits, Nat.le_of_ble_eq_true rfl, by decide +kernel, by decide +kernel, by decide +kernel⟩
theorem zm_Reader_102 : zMV "ThinkNumber$Reader" 102 K_Reader_spells 1 := ⟨Or.inl (tb_in (List.mem_append_right _ (List.mem_append_left _ (List.mem_of_getElem? (i := 177) rfl))) rfl), zs_Reader_spells, zl_Reader_spells, zin_Reader, zy_Reader_spells, Nat.le_of_ble_eq_true rfl, by decide +kernel, by decide +kernel, by decide +kernel⟩
theorem zm_Reader_117 : zMS "ThinkNumber$Reader" 117 K_Reader_sortOf 1 := ⟨Or.inl (tb_in (List.mem_append_right _ (List.mem_append_left _ (List.mem_of_getElem? (i := 152) rfl))) rfl), zs_Reader_sortOf, zin_Reader, zy_Reader_sortOf, Nat.le_of_ble_eq_true rfl, by decide +kernel, by decide +kernel, by decide +kernel⟩
theorem zm_Reader_121 : zMS "ThinkNumber$Reader" 121 K_Reader_wordOf 1 := ⟨Or.inl (tb_in (List.mem_append_right _ (List.mem_append_left _ (List.mem_of_getElem? (i := 163) rfl))) rfl), zs_Reader_wordOf, zin_Reader, zy_Reader_wordOf, Nat.le_of_ble_eq_true rfl, by decide +kernel, by decide +kernel, by decide +kernel⟩
theorem zm_Reader_125 : zMS "ThinkNumber$Reader" 125 K_A_isLetter 1 := ⟨Or.inr ⟨_, List.mem_filter.mpr ⟨List.mem_append_right _ (List.mem_append_right _ (List.mem_append_left _ (List.mem_of_getElem? (i := 1) rfl))), rfl⟩⟩, zs_A_isLetter, zin_A, zy_A_isLetter, Nat.le_of_ble_eq_true rfl, by decide +kernel, by decide +kernel, by decide +kernel⟩
theorem zm_Reader_128 : zMV "ThinkNumber$Reader" 128 K_JStr_length 0 := ⟨Or.inl (tb_in (List.mem_append_right _ (List.mem_append_left _ (List.mem_of_getElem? (i := 181) rfl))) rfl), zs_JStr_length, zl_JStr_length, zin_JStr, zy_JStr_length, Nat.le_of_ble_eq_true rfl, by decide +kernel, by decide +kernel, by decide +kernel⟩
theorem zm_Reader_132 : zMV "ThinkNumber$Reader" 132 K_JStr_charAt 1 := ⟨Or.inl (tb_in (List.mem_append_right _ (List.mem_append_left _ (List.mem_of_getElem? (i := 191) rfl))) rfl), zs_JStr_charAt, zl_JStr_charAt, zin_JStr, zy_JStr_charAt, Nat.le_of_ble_eq_true rfl, by decide +kernel, by decide +kernel, by decide +kernel⟩
theorem zm_State_62 : zMV "ThinkNumber$State" 62 K_Values_copyFrom 1 := ⟨Or.inl (tb_in (List.mem_append_right _ (List.mem_append_right _ (List.mem_append_right _ (List.mem_append_left _ (List.mem_of_getElem? (i := 196) rfl))))) rfl), zs_Values_copyFrom, zl_Values_copyFrom, zin_Values, zy_Values_copyFrom, Nat.le_of_ble_eq_true rfl, by decide +kernel, by decide +kernel, by decide +kernel⟩
theorem zm_State_66 : zMV "ThinkNumber$State" 66 K_Orders_copyFrom 1 := ⟨Or.inl (tb_in (List.mem_append_right _ (List.mem_append_right _ (List.mem_append_right _ (List.mem_append_left _ (List.mem_of_getElem? (i := 202) rfl))))) rfl), zs_Orders_copyFrom, zl_Orders_copyFrom, zin_Orders, zy_Orders_copyFrom, Nat.le_of_ble_eq_true rfl, by decide +kernel, by decide +kernel, by decide +kernel⟩
theorem zm_Sum_15 : zMS "ThinkNumber$Sum" 15 K_JArr_fillJ 2 := ⟨Or.inl (tb_in (List.mem_append_right _ (List.mem_append_right _ (List.mem_append_left _ (List.mem_of_getElem? (i := 216) rfl)))) rfl), zs_JArr_fillJ, zin_JArr, zy_JArr_fillJ, Nat.le_of_ble_eq_true rfl, by decide +kernel, by decide +kernel, by decide +kernel⟩
theorem zm_Sum_21 : zMV "ThinkNumber$Sum" 21 K_Table_isHidden 1 := ⟨Or.inl (tb_in (List.mem_append_right _ (List.mem_append_right _ (List.mem_append_left _ (List.mem_of_getElem? (i := 219) rfl)))) rfl), zs_Table_isHidden, zl_Table_isHidden, zin_Table, zy_Table_isHidden, Nat.le_of_ble_eq_true rfl, by decide +kernel, by decide +kernel, by decide +kernel⟩
theorem zm_Sum_48 : zMV "ThinkNumber$Sum" 48 K_Sum_follow 2 := ⟨Or.inl (tb_in (List.mem_append_right _ (List.mem_append_right _ (List.mem_append_left _ (List.mem_of_getElem? (i := 220) rfl)))) rfl), zs_Sum_follow, zl_Sum_follow, zin_Sum, zy_Sum_follow, Nat.le_of_ble_eq_true rfl, by decide +kernel, by decide +kernel, by decide +kernel⟩
theorem zm_Sum_52 : zMV "ThinkNumber$Sum" 52 K_Sum_putInLowestTerms 0 := ⟨Or.inl (tb_in (List.mem_append_right _ (List.mem_append_right _ (List.mem_append_left _ (List.mem_of_getElem? (i := 237) rfl)))) rfl), zs_Sum_putInLowestTerms, zl_Sum_putInLowestTerms, zin_Sum, zy_Sum_putInLowestTerms, Nat.le_of_ble_eq_true rfl, by decide +kernel, by decide +kernel, by decide +kernel⟩
theorem zm_Sum_56 : zMV "ThinkNumber$Sum" 56 K_Sum_addPart 2 := ⟨Or.inl (tb_in (List.mem_append_right _ (List.mem_append_right _ (List.mem_append_left _ (List.mem_of_getElem? (i := 224) rfl)))) rfl), zs_Sum_addPart, zl_Sum_addPart, zin_Sum, zy_Sum_addPart, Nat.le_of_ble_eq_true rfl, by decide +kernel, by decide +kernel, by decide +kernel⟩
theorem zm_Sum_59 : zMV "ThinkNumber$Sum" 59 K_Sum_multiply 1 := ⟨Or.inl (tb_in (List.mem_append_right _ (List.mem_append_right _ (List.mem_append_left _ (List.mem_of_getElem? (i := 229) rfl)))) rfl), zs_Sum_multiply, zl_Sum_multiply, zin_Sum, zy_Sum_multiply, Nat.le_of_ble_eq_true rfl, by decide +kernel, by decide +kernel, by decide +kernel⟩
theorem zm_Sum_62 : zMV "ThinkNumber$Sum" 62 K_Sum_multiplyByLetter 1 := ⟨Or.inl (tb_in (List.mem_append_right _ (List.mem_append_right _ (List.mem_append_left _ (List.mem_of_getElem? (i := 233) rfl)))) rfl), zs_Sum_multiplyByLetter, zl_Sum_multiplyByLetter, zin_Sum, zy_Sum_multiplyByLetter, Nat.le_of_ble_eq_true rfl, by decide +kernel, by decide +kernel, by decide +kernel⟩
theorem zm_Sum_65 : zMS "ThinkNumber$Sum" 65 K_A_isLetter 1 := ⟨Or.inr ⟨_, List.mem_filter.mpr ⟨List.mem_append_right _ (List.mem_append_right _ (List.mem_append_left _ (List.mem_of_getElem? (i := 228) rfl))), rfl⟩⟩, zs_A_isLetter, zin_A, zy_A_isLetter, Nat.le_of_ble_eq_true rfl, by decide +kernel, by decide +kernel, by decide +kernel⟩
theorem zm_Sum_68 : zMS "ThinkNumber$Sum" 68 K_A_commonMeasure 2 := ⟨Or.inr ⟨_, List.mem_filter.mpr ⟨List.mem_append_right _ (List.mem_append_right _ (List.mem_append_right _ (List.mem_append_left _ (List.mem_of_getElem? (i := 1) rfl)))), rfl⟩⟩, zs_A_commonMeasure, zin_A, zy_A_commonMeasure, Nat.le_of_ble_eq_true rfl, by decide +kernel, by decide +kernel, by decide +kernel⟩
theorem zm_Table_31 : zMS "ThinkNumber$Table" 31 K_JArr_fillI 2 := ⟨Or.inl (tb_in (List.mem_append_right _ (List.mem_append_left _ (List.mem_of_getElem? (i := 145) rfl))) rfl), zs_JArr_fillI, zin_JArr, zy_JArr_fillI, Nat.le_of_ble_eq_true rfl, by decide +kernel, by decide +kernel, by decide +kernel⟩
theorem zm_Table_37 : zMS "ThinkNumber$Table" 37 K_A_isLetter 1 := ⟨Or.inr ⟨_, List.mem_filter.mpr ⟨List.mem_append_right _ (List.mem_append_right _ (List.mem_append_left _ (List.mem_of_getElem? (i := 8) rfl))), rfl⟩⟩, zs_A_isLetter, zin_A, zy_A_isLetter, Nat.le_of_ble_eq_true rfl, by decide +kernel, by decide +kernel, by decide +kernel⟩
theorem zm_Table_41 : zMV "ThinkNumber$Table" 41 K_Table_isHidden 1 := ⟨Or.inl (tb_in (List.mem_append_right _ (List.mem_append_right _ (List.mem_append_left _ (List.mem_of_getElem? (i := 76) rfl)))) rfl), zs_Table_isHidden, zl_Table_isHidden, zin_Table, zy_Table_isHidden, Nat.le_of_ble_eq_true rfl, by decide +kernel, by decide +kernel, by decide +kernel⟩
theorem zm_Table_44 : zMV "ThinkNumber$Table" 44 K_Value_setWhole 1 := ⟨Or.inl (tb_in (List.mem_append_right _ (List.mem_append_right _ (List.mem_append_left _ (List.mem_of_getElem? (i := 77) rfl)))) rfl), zs_Value_setWhole, zl_Value_setWhole, zin_Value, zy_Value_setWhole, Nat.le_of_ble_eq_true rfl, by decide +kernel, by decide +kernel, by decide +kernel⟩
theorem zm_Table_56 : zMV "ThinkNumber$Table" 56 K_Table_begin 2 := ⟨Or.inl (tb_in (List.mem_append_right _ (List.mem_append_right _ (List.mem_append_left _ (List.mem_of_getElem? (i := 72) rfl)))) rfl), zs_Table_begin, zl_Table_begin, zin_Table, zy_Table_begin, Nat.le_of_ble_eq_true rfl, by decide +kernel, by decide +kernel, by decide +kernel⟩
theorem zm_Table_63 : zMV "ThinkNumber$Table" 63 K_Orders_amount 2 := ⟨Or.inl (tb_in (List.mem_append_right _ (List.mem_append_right _ (List.mem_append_left _ (List.mem_of_getElem? (i := 81) rfl)))) rfl), zs_Orders_amount, zl_Orders_amount, zin_Orders, zy_Orders_amount, Nat.le_of_ble_eq_true rfl, by decide +kernel, by decide +kernel, by decide +kernel⟩
theorem zm_Table_67 : zMV "ThinkNumber$Table" 67 K_Value_obey 2 := ⟨Or.inl (tb_in (List.mem_append_right _ (List.mem_append_right _ (List.mem_append_left _ (List.mem_of_getElem? (i := 86) rfl)))) rfl), zs_Value_obey, zl_Value_obey, zin_Value, zy_Value_obey, Nat.le_of_ble_eq_true rfl, by decide +kernel, by decide +kernel, by decide +kernel⟩
theorem zm_Table_71 : zMV "ThinkNumber$Table" 71 K_Table_run 3 := ⟨Or.inl (tb_in (List.mem_append_right _ (List.mem_append_right _ (List.mem_append_left _ (List.mem_of_getElem? (i := 194) rfl)))) rfl), zs_Table_run, zl_Table_run, zin_Table, zy_Table_run, Nat.le_of_ble_eq_true rfl, by decide +kernel, by decide +kernel, by decide +kernel⟩
theorem zm_Table_75 : zMV "ThinkNumber$Table" 75 K_Values_holds 2 := ⟨Or.inl (tb_in (List.mem_append_right _ (List.mem_append_right _ (List.mem_append_right _ (List.mem_append_left _ (List.mem_of_getElem? (i := 22) rfl))))) rfl), zs_Values_holds, zl_Values_holds, zin_Values, zy_Values_holds, Nat.le_of_ble_eq_true rfl, by decide +kernel, by decide +kernel, by decide +kernel⟩
theorem zm_Table_82 : zMS "ThinkNumber$Table" 82 K_Table_slipAt 4 := ⟨Or.inl (tb_in (List.mem_append_right _ (List.mem_append_right _ (List.mem_append_right _ (List.mem_append_left _ (List.mem_of_getElem? (i := 111) rfl))))) rfl), zs_Table_slipAt, zin_Table, zy_Table_slipAt, Nat.le_of_ble_eq_true rfl, by decide +kernel, by decide +kernel, by decide +kernel⟩
theorem zm_Tally_15 : zMS "ThinkNumber$Tally" 15 K_JArr_fillJ 2 := ⟨Or.inl (tb_in (List.mem_append_right _ (List.mem_append_right _ (List.mem_append_right _ (List.mem_append_left _ (List.mem_of_getElem? (i := 17) rfl))))) rfl), zs_JArr_fillJ, zin_JArr, zy_JArr_fillJ, Nat.le_of_ble_eq_true rfl, by decide +kernel, by decide +kernel, by decide +kernel⟩
theorem zm_Tally_28 : zMS "ThinkNumber$Tally" 28 K_A_isNumber 1 := ⟨Or.inr ⟨_, List.mem_filter.mpr ⟨List.mem_append_right _ (List.mem_append_right _ (List.mem_append_right _ (List.mem_append_left _ (List.mem_of_getElem? (i := 27) rfl)))), rfl⟩⟩, zs_A_isNumber, zin_A, zy_A_isNumber, Nat.le_of_ble_eq_true rfl, by decide +kernel, by decide +kernel, by decide +kernel⟩
theorem zm_Value_18 : zMS "ThinkNumber$Value" 18 K_A_commonMeasure 2 := ⟨Or.inr ⟨_, List.mem_filter.mpr ⟨List.mem_append_right _ (List.mem_append_right _ (List.mem_append_left _ (List.mem_of_getElem? (i := 94) rfl))), rfl⟩⟩, zs_A_commonMeasure, zin_A, zy_A_commonMeasure, Nat.le_of_ble_eq_true rfl, by decide +kernel, by decide +kernel, by decide +kernel⟩
theorem zm_Value_28 : zMV "ThinkNumber$Value" 28 K_Value_put 2 := ⟨Or.inl (tb_in (List.mem_append_right _ (List.mem_append_right _ (List.mem_append_left _ (List.mem_of_getElem? (i := 90) rfl)))) rfl), zs_Value_put, zl_Value_put, zin_Value, zy_Value_put, Nat.le_of_ble_eq_true rfl, by decide +kernel, by decide +kernel, by decide +kernel⟩
theorem zm_Value_32 : zMS "ThinkNumber$Value" 32 K_A_isNumber 1 := ⟨Or.inr ⟨_, List.mem_filter.mpr ⟨List.mem_append_right _ (List.mem_append_right _ (List.mem_append_left _ (List.mem_of_getElem? (i := 103) rfl))), rfl⟩⟩, zs_A_isNumber, zin_A, zy_A_isNumber, Nat.le_of_ble_eq_true rfl, by decide +kernel, by decide +kernel, by decide +kernel⟩
theorem zm_Value_40 : zMS "ThinkNumber$Value" 40 K_A_figuresOf 1 := ⟨Or.inr ⟨_, List.mem_filter.mpr ⟨List.mem_append_right _ (List.mem_append_right _ (List.mem_append_left _ (List.mem_of_getElem? (i := 106) rfl))), rfl⟩⟩, zs_A_figuresOf, zin_A, zy_A_figuresOf, Nat.le_of_ble_eq_true rfl, by decide +kernel, by decide +kernel, by decide +kernel⟩
theorem zm_Value_44 : zMV "ThinkNumber$Value" 44 K_Value_turned 0 := ⟨Or.inl (tb_in (List.mem_append_right _ (List.mem_append_right _ (List.mem_append_left _ (List.mem_of_getElem? (i := 110) rfl)))) rfl), zs_Value_turned, zl_Value_turned, zin_Value, zy_Value_turned, Nat.le_of_ble_eq_true rfl, by decide +kernel, by decide +kernel, by decide +kernel⟩
theorem zm_Value_48 : zMV "ThinkNumber$Value" 48 K_Value_across 0 := ⟨Or.inl (tb_in (List.mem_append_right _ (List.mem_append_right _ (List.mem_append_left _ (List.mem_of_getElem? (i := 115) rfl)))) rfl), zs_Value_across, zl_Value_across, zin_Value, zy_Value_across, Nat.le_of_ble_eq_true rfl, by decide +kernel, by decide +kernel, by decide +kernel⟩
theorem zm_Value_51 : zMV "ThinkNumber$Value" 51 K_Value_without 1 := ⟨Or.inl (tb_in (List.mem_append_right _ (List.mem_append_right _ (List.mem_append_left _ (List.mem_of_getElem? (i := 119) rfl)))) rfl), zs_Value_without, zl_Value_without, zin_Value, zy_Value_without, Nat.le_of_ble_eq_true rfl, by decide +kernel, by decide +kernel, by decide +kernel⟩
theorem zm_Values_22 : zMS "ThinkNumber$Values" 22 K_A_isTold 2 := ⟨Or.inr ⟨_, List.mem_filter.mpr ⟨List.mem_append_right _ (List.mem_append_right _ (List.mem_append_left _ (List.mem_of_getElem? (i := 146) rfl))), rfl⟩⟩, zs_A_isTold, zin_A, zy_A_isTold, Nat.le_of_ble_eq_true rfl, by decide +kernel, by decide +kernel, by decide +kernel⟩
theorem zm_Values_26 : zMV "ThinkNumber$Values" 26 K_Value_put 2 := ⟨Or.inl (tb_in (List.mem_append_right _ (List.mem_append_right _ (List.mem_append_left _ (List.mem_of_getElem? (i := 152) rfl)))) rfl), zs_Value_put, zl_Value_put, zin_Value, zy_Value_put, Nat.le_of_ble_eq_true rfl, by decide +kernel, by decide +kernel, by decide +kernel⟩
theorem zm_Values_32 : zMV "ThinkNumber$Values" 32 K_Values_append 1 := ⟨Or.inl (tb_in (List.mem_append_right _ (List.mem_append_right _ (List.mem_append_left _ (List.mem_of_getElem? (i := 153) rfl)))) rfl), zs_Values_append, zl_Values_append, zin_Values, zy_Values_append, Nat.le_of_ble_eq_true rfl, by decide +kernel, by decide +kernel, by decide +kernel⟩
theorem zm_Values_43 : zMV "ThinkNumber$Values" 43 K_Value_setWhole 1 := ⟨Or.inl (tb_in (List.mem_append_right _ (List.mem_append_right _ (List.mem_append_right _ (List.mem_append_left _ (List.mem_of_getElem? (i := 178) rfl))))) rfl), zs_Value_setWhole, zl_Value_setWhole, zin_Value, zy_Value_setWhole, Nat.le_of_ble_eq_true rfl, by decide +kernel, by decide +kernel, by decide +kernel⟩
theorem zm_Values_47 : zMV "ThinkNumber$Values" 47 K_Value_is 2 := ⟨Or.inl (tb_in (List.mem_append_right _ (List.mem_append_right _ (List.mem_append_left _ (List.mem_of_getElem? (i := 166) rfl)))) rfl), zs_Value_is, zl_Value_is, zin_Value, zy_Value_is, Nat.le_of_ble_eq_true rfl, by decide +kernel, by decide +kernel, by decide +kernel⟩
theorem zm_M_64 : zMS "ThinkNumberModel" 64 K_M_copyAll 4 := ⟨Or.inl (tb_in (List.mem_append_right _ (List.mem_append_right _ (List.mem_append_right _ (List.mem_append_left _ (List.mem_of_getElem? (i := 222) rfl))))) rfl), zs_M_copyAll, zin_M, zy_M_copyAll, Nat.le_of_ble_eq_true rfl, by decide +kernel, by decide +kernel, by decide +kernel⟩
theorem zm_M_68 : zMS "ThinkNumberModel" 68 K_M_isIn 3 := ⟨Or.inl (tb_in (List.mem_append_right _ (List.mem_append_right _ (List.mem_append_right _ (List.mem_append_right _ (List.mem_append_left _ (List.mem_of_getElem? (i := 69) rfl)))))) rfl), zs_M_isIn, zin_M, zy_M_isIn, Nat.le_of_ble_eq_true rfl, by decide +kernel, by decide +kernel, by decide +kernel⟩
theorem zm_M_72 : zMV "ThinkNumberModel" 72 K_M_spanOf 3 := ⟨Or.inl (tb_in (List.mem_append_right _ (List.mem_append_right _ (List.mem_append_right _ (List.mem_append_right _ (List.mem_append_left _ (List.mem_of_getElem? (i := 184) rfl)))))) rfl), zs_M_spanOf, zl_M_spanOf, zin_M, zy_M_spanOf, Nat.le_of_ble_eq_true rfl, by decide +kernel, by decide +kernel, by decide +kernel⟩
theorem zm_M_79 : zMV "ThinkNumberModel" 79 K_M_four 1 := ⟨Or.inl (tb_in (List.mem_append_right _ (List.mem_append_right _ (List.mem_append_right _ (List.mem_append_right _ (List.mem_append_left _ (List.mem_of_getElem? (i := 76) rfl)))))) rfl), zs_M_four, zl_M_four, zin_M, zy_M_four, Nat.le_of_ble_eq_true rfl, by decide +kernel, by decide +kernel, by decide +kernel⟩
theorem zm_M_86 : zMV "ThinkNumberModel" 86 K_M_byteAt 1 := ⟨Or.inl (tb_in (List.mem_append_right _ (List.mem_append_right _ (List.mem_append_right _ (List.mem_append_right _ (List.mem_append_left _ (List.mem_of_getElem? (i := 96) rfl)))))) rfl), zs_M_byteAt, zl_M_byteAt, zin_M, zy_M_byteAt, Nat.le_of_ble_eq_true rfl, by decide +kernel, by decide +kernel, by decide +kernel⟩
theorem zm_M_96 : zMS "ThinkNumberModel" 96 K_M_isFigure 1 := ⟨Or.inl (tb_in (List.mem_append_right _ (List.mem_append_right _ (List.mem_append_right _ (List.mem_append_right _ (List.mem_append_left _ (List.mem_of_getElem? (i := 100) rfl)))))) rfl), zs_M_isFigure, zin_M, zy_M_isFigure, Nat.le_of_ble_eq_true rfl, by decide +kernel, by decide +kernel, by decide +kernel⟩
theorem zm_M_104 : zMS "ThinkNumberModel" 104 K_M_isLetterByte 1 := ⟨Or.inl (tb_in (List.mem_append_right _ (List.mem_append_right _ (List.mem_append_right _ (List.mem_append_right _ (List.mem_append_left _ (List.mem_of_getElem? (i := 104) rfl)))))) rfl), zs_M_isLetterByte, zin_M, zy_M_isLetterByte, Nat.le_of_ble_eq_true rfl, by decide +kernel, by decide +kernel, by decide +kernel⟩
theorem zm_M_113 : zMS "ThinkNumberModel" 113 K_M_w3 3 := ⟨Or.inl (tb_in (List.mem_append_right _ (List.mem_append_right _ (List.mem_append_right _ (List.mem_append_right _ (List.mem_append_left _ (List.mem_of_getElem? (i := 112) rfl)))))) rfl), zs_M_w3, zin_M, zy_M_w3, Nat.le_of_ble_eq_true rfl, by decide +kernel, by decide +kernel, by decide +kernel⟩
theorem zm_M_117 : zMS "ThinkNumberModel" 117 K_M_w4 4 := ⟨Or.inl (tb_in (List.mem_append_right _ (List.mem_append_right _ (List.mem_append_right _ (List.mem_append_right _ (List.mem_append_left _ (List.mem_of_getElem? (i := 119) rfl)))))) rfl), zs_M_w4, zin_M, zy_M_w4, Nat.le_of_ble_eq_true rfl, by decide +kernel, by decide +kernel, by decide +kernel⟩
theorem zm_M_121 : zMS "ThinkNumberModel" 121 K_M_w5 5 := ⟨Or.inl (tb_in (List.mem_append_right _ (List.mem_append_right _ (List.mem_append_right _ (List.mem_append_right _ (List.mem_append_left _ (List.mem_of_getElem? (i := 122) rfl)))))) rfl), zs_M_w5, zin_M, zy_M_w5, Nat.le_of_ble_eq_true rfl, by decide +kernel, by decide +kernel, by decide +kernel⟩
theorem zm_M_125 : zMV "ThinkNumberModel" 125 K_M_isWord 1 := ⟨Or.inl (tb_in (List.mem_append_right _ (List.mem_append_right _ (List.mem_append_right _ (List.mem_append_right _ (List.mem_append_left _ (List.mem_of_getElem? (i := 115) rfl)))))) rfl), zs_M_isWord, zl_M_isWord, zin_M, zy_M_isWord, Nat.le_of_ble_eq_true rfl, by decide +kernel, by decide +kernel, by decide +kernel⟩
theorem zm_M_131 : zMS "ThinkNumberModel" 131 K_M_w6 6 := ⟨Or.inl (tb_in (List.mem_append_right _ (List.mem_append_right _ (List.mem_append_right _ (List.mem_append_right _ (List.mem_append_left _ (List.mem_of_getElem? (i := 126) rfl)))))) rfl), zs_M_w6, zin_M, zy_M_w6, Nat.le_of_ble_eq_true rfl, by decide +kernel, by decide +kernel, by decide +kernel⟩
theorem zm_M_139 : zMV "ThinkNumberModel" 139 K_M_nextToken 0 := ⟨Or.inl (tb_in (List.mem_append_right _ (List.mem_append_right _ (List.mem_append_right _ (List.mem_append_right _ (List.mem_append_left _ (List.mem_of_getElem? (i := 92) rfl)))))) rfl), zs_M_nextToken, zl_M_nextToken, zin_M, zy_M_nextToken, Nat.le_of_ble_eq_true rfl, by decide +kernel, by decide +kernel, by decide +kernel⟩
theorem zm_M_142 : zMV "ThinkNumberModel" 142 K_M_letterAt 0 := ⟨Or.inl (tb_in (List.mem_append_right _ (List.mem_append_right _ (List.mem_append_right _ (List.mem_append_right _ (List.mem_append_left _ (List.mem_of_getElem? (i := 133) rfl)))))) rfl), zs_M_letterAt, zl_M_letterAt, zin_M, zy_M_letterAt, Nat.le_of_ble_eq_true rfl, by decide +kernel, by decide +kernel, by decide +kernel⟩
theorem zm_M_149 : zMV "ThinkNumberModel" 149 K_M_numberAt 3 := ⟨Or.inl (tb_in (List.mem_append_right _ (List.mem_append_right _ (List.mem_append_right _ (List.mem_append_right _ (List.mem_append_left _ (List.mem_of_getElem? (i := 139) rfl)))))) rfl), zs_M_numberAt, zl_M_numberAt, zin_M, zy_M_numberAt, Nat.le_of_ble_eq_true rfl, by decide +kernel, by decide +kernel, by decide +kernel⟩
theorem zm_M_154 : zMV "ThinkNumberModel" 154 K_M_xAt 1 := ⟨Or.inl (tb_in (List.mem_append_right _ (List.mem_append_right _ (List.mem_append_right _ (List.mem_append_right _ (List.mem_append_left _ (List.mem_of_getElem? (i := 148) rfl)))))) rfl), zs_M_xAt, zl_M_xAt, zin_M, zy_M_xAt, Nat.le_of_ble_eq_true rfl, by decide +kernel, by decide +kernel, by decide +kernel⟩
theorem zm_M_157 : zMV "ThinkNumberModel" 157 K_M_kindAt 0 := ⟨Or.inl (tb_in (List.mem_append_right _ (List.mem_append_right _ (List.mem_append_right _ (List.mem_append_right _ (List.mem_append_left _ (List.mem_of_getElem? (i := 108) rfl)))))) rfl), zs_M_kindAt, zl_M_kindAt, zin_M, zy_M_kindAt, Nat.le_of_ble_eq_true rfl, by decide +kernel, by decide +kernel, by decide +kernel⟩
theorem zm_M_160 : zMV "ThinkNumberModel" 160 K_M_hide 0 := ⟨Or.inl (tb_in (List.mem_append_right _ (List.mem_append_right _ (List.mem_append_right _ (List.mem_append_right _ (List.mem_append_left _ (List.mem_of_getElem? (i := 129) rfl)))))) rfl), zs_M_hide, zl_M_hide, zin_M, zy_M_hide, Nat.le_of_ble_eq_true rfl, by decide +kernel, by decide +kernel, by decide +kernel⟩
theorem zm_M_163 : zMV "ThinkNumberModel" 163 K_M_order0 1 := ⟨Or.inl (tb_in (List.mem_append_right _ (List.mem_append_right _ (List.mem_append_right _ (List.mem_append_right _ (List.mem_append_left _ (List.mem_of_getElem? (i := 144) rfl)))))) rfl), zs_M_order0, zl_M_order0, zin_M, zy_M_order0, Nat.le_of_ble_eq_true rfl, by decide +kernel, by decide +kernel, by decide +kernel⟩
theorem zm_M_166 : zMV "ThinkNumberModel" 166 K_M_readTable 0 := ⟨Or.inl (tb_in (List.mem_append_right _ (List.mem_append_right _ (List.mem_append_right _ (List.mem_append_right _ (List.mem_append_left _ (List.mem_of_getElem? (i := 88) rfl)))))) rfl), zs_M_readTable, zl_M_readTable, zin_M, zy_M_readTable, Nat.le_of_ble_eq_true rfl, by decide +kernel, by decide +kernel, by decide +kernel⟩
theorem zm_M_169 : zMV "ThinkNumberModel" 169 K_M_isTable 1 := ⟨Or.inl (tb_in (List.mem_append_right _ (List.mem_append_right _ (List.mem_append_right _ (List.mem_append_right _ (List.mem_append_left _ (List.mem_of_getElem? (i := 160) rfl)))))) rfl), zs_M_isTable, zl_M_isTable, zin_M, zy_M_isTable, Nat.le_of_ble_eq_true rfl, by decide +kernel, by decide +kernel, by decide +kernel⟩
theorem zm_M_172 : zMV "ThinkNumberModel" 172 K_M_ordersOf 1 := ⟨Or.inl (tb_in (List.mem_append_right _ (List.mem_append_right _ (List.mem_append_right _ (List.mem_append_right _ (List.mem_append_left _ (List.mem_of_getElem? (i := 164) rfl)))))) rfl), zs_M_ordersOf, zl_M_ordersOf, zin_M, zy_M_ordersOf, Nat.le_of_ble_eq_true rfl, by decide +kernel, by decide +kernel, by decide +kernel⟩
theorem zm_M_175 : zMV "ThinkNumberModel" 175 K_M_xOf 2 := ⟨Or.inl (tb_in (List.mem_append_right _ (List.mem_append_right _ (List.mem_append_right _ (List.mem_append_right _ (List.mem_append_left _ (List.mem_of_getElem? (i := 168) rfl)))))) rfl), zs_M_xOf, zl_M_xOf, zin_M, zy_M_xOf, Nat.le_of_ble_eq_true rfl, by decide +kernel, by decide +kernel, by decide +kernel⟩
theorem zm_M_179 : zMV "ThinkNumberModel" 179 K_M_kindOf 2 := ⟨Or.inl (tb_in (List.mem_append_right _ (List.mem_append_right _ (List.mem_append_right _ (List.mem_append_right _ (List.mem_append_left _ (List.mem_of_getElem? (i := 172) rfl)))))) rfl), zs_M_kindOf, zl_M_kindOf, zin_M, zy_M_kindOf, Nat.le_of_ble_eq_true rfl, by decide +kernel, by decide +kernel, by decide +kernel⟩
theorem zm_M_182 : zMV "ThinkNumberModel" 182 K_M_isHidden 2 := ⟨Or.inl (tb_in (List.mem_append_right _ (List.mem_append_right _ (List.mem_append_right _ (List.mem_append_right _ (List.mem_append_left _ (List.mem_of_getElem? (i := 180) rfl)))))) rfl), zs_M_isHidden, zl_M_isHidden, zin_M, zy_M_isHidden, Nat.le_of_ble_eq_true rfl, by decide +kernel, by decide +kernel, by decide +kernel⟩
theorem zm_M_186 : zMS "ThinkNumberModel" 186 K_M_common 2 := ⟨Or.inl (tb_in (List.mem_append_right _ (List.mem_append_right _ (List.mem_append_right _ (List.mem_append_right _ (List.mem_append_left _ (List.mem_of_getElem? (i := 213) rfl)))))) rfl), zs_M_common, zin_M, zy_M_common, Nat.le_of_ble_eq_true rfl, by decide +kernel, by decide +kernel, by decide +kernel⟩
theorem zm_M_204 : zMV "ThinkNumberModel" 204 K_M_lay 2 := ⟨Or.inl (tb_in (List.mem_append_right _ (List.mem_append_right _ (List.mem_append_right _ (List.mem_append_right _ (List.mem_append_left _ (List.mem_of_getElem? (i := 209) rfl)))))) rfl), zs_M_lay, zl_M_lay, zin_M, zy_M_lay, Nat.le_of_ble_eq_true rfl, by decide +kernel, by decide +kernel, by decide +kernel⟩
theorem zm_M_208 : zMS "ThinkNumberModel" 208 K_M_figuresOf 1 := ⟨Or.inl (tb_in (List.mem_append_right _ (List.mem_append_right _ (List.mem_append_right _ (List.mem_append_right _ (List.mem_append_left _ (List.mem_of_getElem? (i := 223) rfl)))))) rfl), zs_M_figuresOf, zin_M, zy_M_figuresOf, Nat.le_of_ble_eq_true rfl, by decide +kernel, by decide +kernel, by decide +kernel⟩
theorem zm_M_212 : zMS "ThinkNumberModel" 212 K_M_tenTo 1 := ⟨Or.inl (tb_in (List.mem_append_right _ (List.mem_append_right _ (List.mem_append_right _ (List.mem_append_right _ (List.mem_append_left _ (List.mem_of_getElem? (i := 227) rfl)))))) rfl), zs_M_tenTo, zin_M, zy_M_tenTo, Nat.le_of_ble_eq_true rfl, by decide +kernel, by decide +kernel, by decide +kernel⟩
theorem zm_M_216 : zMS "ThinkNumberModel" 216 K_M_turned 1 := ⟨Or.inl (tb_in (List.mem_append_right _ (List.mem_append_right _ (List.mem_append_right _ (List.mem_append_right _ (List.mem_append_left _ (List.mem_of_getElem? (i := 230) rfl)))))) rfl), zs_M_turned, zin_M, zy_M_turned, Nat.le_of_ble_eq_true rfl, by decide +kernel, by decide +kernel, by decide +kernel⟩
theorem zm_M_220 : zMS "ThinkNumberModel" 220 K_M_across 1 := ⟨Or.inl (tb_in (List.mem_append_right _ (List.mem_append_right _ (List.mem_append_right _ (List.mem_append_right _ (List.mem_append_left _ (List.mem_of_getElem? (i := 233) rfl)))))) rfl), zs_M_across, zin_M, zy_M_across, Nat.le_of_ble_eq_true rfl, by decide +kernel, by decide +kernel, by decide +kernel⟩
theorem zm_M_223 : zMV "ThinkNumberModel" 223 K_M_figures 2 := ⟨Or.inl (tb_in (List.mem_append_right _ (List.mem_append_right _ (List.mem_append_right _ (List.mem_append_right _ (List.mem_append_left _ (List.mem_of_getElem? (i := 219) rfl)))))) rfl), zs_M_figures, zl_M_figures, zin_M, zy_M_figures, Nat.le_of_ble_eq_true rfl, by decide +kernel, by decide +kernel, by decide +kernel⟩
theorem zm_M_227 : zMV "ThinkNumberModel" 227 K_M_begin 1 := ⟨Or.inl (tb_in (List.mem_append_right _ (List.mem_append_right _ (List.mem_append_right _ (List.mem_append_right _ (List.mem_append_left _ (List.mem_of_getElem? (i := 201) rfl)))))) rfl), zs_M_begin, zl_M_begin, zin_M, zy_M_begin, Nat.le_of_ble_eq_true rfl, by decide +kernel, by decide +kernel, by decide +kernel⟩
theorem zm_M_230 : zMV "ThinkNumberModel" 230 K_M_does 2 := ⟨Or.inl (tb_in (List.mem_append_right _ (List.mem_append_right _ (List.mem_append_right _ (List.mem_append_right _ (List.mem_append_left _ (List.mem_of_getElem? (i := 205) rfl)))))) rfl), zs_M_does, zl_M_does, zin_M, zy_M_does, Nat.le_of_ble_eq_true rfl, by decide +kernel, by decide +kernel, by decide +kernel⟩
theorem zm_M_235 : zMV "ThinkNumberModel" 235 K_M_thinkNow 0 := ⟨Or.inl (tb_in (List.mem_append_right _ (List.mem_append_right _ (List.mem_append_right _ (List.mem_append_right _ (List.mem_append_left _ (List.mem_of_getElem? (i := 193) rfl)))))) rfl), zs_M_thinkNow, zl_M_thinkNow, zin_M, zy_M_thinkNow, Nat.le_of_ble_eq_true rfl, by decide +kernel, by decide +kernel, by decide +kernel⟩
theorem zm_M_238 : zMV "ThinkNumberModel" 238 K_M_goTo 2 := ⟨Or.inl (tb_in (List.mem_append_right _ (List.mem_append_right _ (List.mem_append_right _ (List.mem_append_right _ (List.mem_append_left _ (List.mem_of_getElem? (i := 197) rfl)))))) rfl), zs_M_goTo, zl_M_goTo, zin_M, zy_M_goTo, Nat.le_of_ble_eq_true rfl, by decide +kernel, by decide +kernel, by decide +kernel⟩
theorem zm_M_244 : zMS "ThinkNumberModel" 244 K_M_isFraction 2 := ⟨Or.inl (tb_in (List.mem_append_right _ (List.mem_append_right _ (List.mem_append_right _ (List.mem_append_right _ (List.mem_append_right _ (List.mem_of_getElem? (i := 12) rfl)))))) rfl), zs_M_isFraction, zin_M, zy_M_isFraction, Nat.le_of_ble_eq_true rfl, by decide +kernel, by decide +kernel, by decide +kernel⟩
theorem zm_M_247 : zMV "ThinkNumberModel" 247 K_M_write 3 := ⟨Or.inl (tb_in (List.mem_append_right _ (List.mem_append_right _ (List.mem_append_right _ (List.mem_append_right _ (List.mem_append_right _ (List.mem_of_getElem? (i := 18) rfl)))))) rfl), zs_M_write, zl_M_write, zin_M, zy_M_write, Nat.le_of_ble_eq_true rfl, by decide +kernel, by decide +kernel, by decide +kernel⟩
theorem zm_M_251 : zMV "ThinkNumberModel" 251 K_M_listed 5 := ⟨Or.inl (tb_in (List.mem_append_right _ (List.mem_append_right _ (List.mem_append_right _ (List.mem_append_right _ (List.mem_append_right _ (List.mem_of_getElem? (i := 8) rfl)))))) rfl), zs_M_listed, zl_M_listed, zin_M, zy_M_listed, Nat.le_of_ble_eq_true rfl, by decide +kernel, by decide +kernel, by decide +kernel⟩
theorem zm_M_255 : zMV "ThinkNumberModel" 255 K_M_lastOf 2 := ⟨Or.inl (tb_in (List.mem_append_right _ (List.mem_append_right _ (List.mem_append_right _ (List.mem_append_right _ (List.mem_append_right _ (List.mem_of_getElem? (i := 38) rfl)))))) rfl), zs_M_lastOf, zl_M_lastOf, zin_M, zy_M_lastOf, Nat.le_of_ble_eq_true rfl, by decide +kernel, by decide +kernel, by decide +kernel⟩
theorem zm_M_258 : zMV "ThinkNumberModel" 258 K_M_firstOf 2 := ⟨Or.inl (tb_in (List.mem_append_right _ (List.mem_append_right _ (List.mem_append_right _ (List.mem_append_right _ (List.mem_append_right _ (List.mem_of_getElem? (i := 42) rfl)))))) rfl), zs_M_firstOf, zl_M_firstOf, zin_M, zy_M_firstOf, Nat.le_of_ble_eq_true rfl, by decide +kernel, by decide +kernel, by decide +kernel⟩
theorem zm_M_263 : zMV "ThinkNumberModel" 263 K_M_allOf 1 := ⟨Or.inl (tb_in (List.mem_append_right _ (List.mem_append_right _ (List.mem_append_right _ (List.mem_append_right _ (List.mem_append_right _ (List.mem_of_getElem? (i := 34) rfl)))))) rfl), zs_M_allOf, zl_M_allOf, zin_M, zy_M_allOf, Nat.le_of_ble_eq_true rfl, by decide +kernel, by decide +kernel, by decide +kernel⟩
theorem zm_M_266 : zMV "ThinkNumberModel" 266 K_M_thinkFirst 1 := ⟨Or.inl (tb_in (List.mem_append_right _ (List.mem_append_right _ (List.mem_append_right _ (List.mem_append_right _ (List.mem_append_right _ (List.mem_of_getElem? (i := 51) rfl)))))) rfl), zs_M_thinkFirst, zl_M_thinkFirst, zin_M, zy_M_thinkFirst, Nat.le_of_ble_eq_true rfl, by decide +kernel, by decide +kernel, by decide +kernel⟩
theorem zm_M_269 : zMV "ThinkNumberModel" 269 K_M_thinkNext 1 := ⟨Or.inl (tb_in (List.mem_append_right _ (List.mem_append_right _ (List.mem_append_right _ (List.mem_append_right _ (List.mem_append_right _ (List.mem_of_getElem? (i := 55) rfl)))))) rfl), zs_M_thinkNext, zl_M_thinkNext, zin_M, zy_M_thinkNext, Nat.le_of_ble_eq_true rfl, by decide +kernel, by decide +kernel, by decide +kernel⟩
theorem zm_M_272 : zMV "ThinkNumberModel" 272 K_M_isSame 1 := ⟨Or.inl (tb_in (List.mem_append_right _ (List.mem_append_right _ (List.mem_append_right _ (List.mem_append_right _ (List.mem_append_right _ (List.mem_of_getElem? (i := 47) rfl)))))) rfl), zs_M_isSame, zl_M_isSame, zin_M, zy_M_isSame, Nat.le_of_ble_eq_true rfl, by decide +kernel, by decide +kernel, by decide +kernel⟩
theorem zm_M_275 : zMV "ThinkNumberModel" 275 K_M_reduced 0 := ⟨Or.inl (tb_in (List.mem_append_right _ (List.mem_append_right _ (List.mem_append_right _ (List.mem_append_right _ (List.mem_append_right _ (List.mem_of_getElem? (i := 71) rfl)))))) rfl), zs_M_reduced, zl_M_reduced, zin_M, zy_M_reduced, Nat.le_of_ble_eq_true rfl, by decide +kernel, by decide +kernel, by decide +kernel⟩
theorem zm_M_279 : zMV "ThinkNumberModel" 279 K_M_isNumber 0 := ⟨Or.inl (tb_in (List.mem_append_right _ (List.mem_append_right _ (List.mem_append_right _ (List.mem_append_right _ (List.mem_append_right _ (List.mem_of_getElem? (i := 75) rfl)))))) rfl), zs_M_isNumber, zl_M_isNumber, zin_M, zy_M_isNumber, Nat.le_of_ble_eq_true rfl, by decide +kernel, by decide +kernel, by decide +kernel⟩
theorem zm_M_282 : zMV "ThinkNumberModel" 282 K_M_proves 2 := ⟨Or.inl (tb_in (List.mem_append_right _ (List.mem_append_right _ (List.mem_append_right _ (List.mem_append_right _ (List.mem_append_right _ (List.mem_of_getElem? (i := 67) rfl)))))) rfl), zs_M_proves, zl_M_proves, zin_M, zy_M_proves, Nat.le_of_ble_eq_true rfl, by decide +kernel, by decide +kernel, by decide +kernel⟩
theorem zm_M_285 : zMV "ThinkNumberModel" 285 K_M_isFit 1 := ⟨Or.inl (tb_in (List.mem_append_right _ (List.mem_append_right _ (List.mem_append_right _ (List.mem_append_right _ (List.mem_append_right _ (List.mem_of_getElem? (i := 83) rfl)))))) rfl), zs_M_isFit, zl_M_isFit, zin_M, zy_M_isFit, Nat.le_of_ble_eq_true rfl, by decide +kernel, by decide +kernel, by decide +kernel⟩
theorem zm_M_296 : zMV "ThinkNumberModel" 296 K_M_sumOf 3 := ⟨Or.inl (tb_in (List.mem_append_right _ (List.mem_append_right _ (List.mem_append_right _ (List.mem_append_right _ (List.mem_append_right _ (List.mem_of_getElem? (i := 99) rfl)))))) rfl), zs_M_sumOf, zl_M_sumOf, zin_M, zy_M_sumOf, Nat.le_of_ble_eq_true rfl, by decide +kernel, by decide +kernel, by decide +kernel⟩
theorem zm_M_299 : zMV "ThinkNumberModel" 299 K_M_isAlike 4 := ⟨Or.inl (tb_in (List.mem_append_right _ (List.mem_append_right _ (List.mem_append_right _ (List.mem_append_right _ (List.mem_append_right _ (List.mem_of_getElem? (i := 107) rfl)))))) rfl), zs_M_isAlike, zl_M_isAlike, zin_M, zy_M_isAlike, Nat.le_of_ble_eq_true rfl, by decide +kernel, by decide +kernel, by decide +kernel⟩
theorem zm_M_303 : zMV "ThinkNumberModel" 303 K_M_layAll 2 := ⟨Or.inl (tb_in (List.mem_append_right _ (List.mem_append_right _ (List.mem_append_right _ (List.mem_append_right _ (List.mem_append_right _ (List.mem_of_getElem? (i := 91) rfl)))))) rfl), zs_M_layAll, zl_M_layAll, zin_M, zy_M_layAll, Nat.le_of_ble_eq_true rfl, by decide +kernel, by decide +kernel, by decide +kernel⟩
theorem zm_M_306 : zMV "ThinkNumberModel" 306 K_M_areUnlike 3 := ⟨Or.inl (tb_in (List.mem_append_right _ (List.mem_append_right _ (List.mem_append_right _ (List.mem_append_right _ (List.mem_append_right _ (List.mem_of_getElem? (i := 95) rfl)))))) rfl), zs_M_areUnlike, zl_M_areUnlike, zin_M, zy_M_areUnlike, Nat.le_of_ble_eq_true rfl, by decide +kernel, by decide +kernel, by decide +kernel⟩
theorem zm_M_309 : zMV "ThinkNumberModel" 309 K_M_leads 3 := ⟨Or.inl (tb_in (List.mem_append_right _ (List.mem_append_right _ (List.mem_append_right _ (List.mem_append_right _ (List.mem_append_right _ (List.mem_of_getElem? (i := 127) rfl)))))) rfl), zs_M_leads, zl_M_leads, zin_M, zy_M_leads, Nat.le_of_ble_eq_true rfl, by decide +kernel, by decide +kernel, by decide +kernel⟩
theorem zm_M_312 : zMV "ThinkNumberModel" 312 K_M_leadsAll 4 := ⟨Or.inl (tb_in (List.mem_append_right _ (List.mem_append_right _ (List.mem_append_right _ (List.mem_append_right _ (List.mem_append_right _ (List.mem_of_getElem? (i := 123) rfl)))))) rfl), zs_M_leadsAll, zl_M_leadsAll, zin_M, zy_M_leadsAll, Nat.le_of_ble_eq_true rfl, by decide +kernel, by decide +kernel, by decide +kernel⟩
theorem zm_M_315 : zMV "ThinkNumberModel" 315 K_M_isMade 4 := ⟨Or.inl (tb_in (List.mem_append_right _ (List.mem_append_right _ (List.mem_append_right _ (List.mem_append_right _ (List.mem_append_right _ (List.mem_of_getElem? (i := 119) rfl)))))) rfl), zs_M_isMade, zl_M_isMade, zin_M, zy_M_isMade, Nat.le_of_ble_eq_true rfl, by decide +kernel, by decide +kernel, by decide +kernel⟩
theorem zm_M_318 : zMS "ThinkNumberModel" 318 K_M_turnedRound 1 := ⟨Or.inl (tb_in (List.mem_append_right _ (List.mem_append_right _ (List.mem_append_right _ (List.mem_append_right _ (List.mem_append_right _ (List.mem_of_getElem? (i := 143) rfl)))))) rfl), zs_M_turnedRound, zin_M, zy_M_turnedRound, Nat.le_of_ble_eq_true rfl, by decide +kernel, by decide +kernel, by decide +kernel⟩
theorem zm_M_321 : zMV "ThinkNumberModel" 321 K_M_slips 3 := ⟨Or.inl (tb_in (List.mem_append_right _ (List.mem_append_right _ (List.mem_append_right _ (List.mem_append_right _ (List.mem_append_right _ (List.mem_of_getElem? (i := 139) rfl)))))) rfl), zs_M_slips, zl_M_slips, zin_M, zy_M_slips, Nat.le_of_ble_eq_true rfl, by decide +kernel, by decide +kernel, by decide +kernel⟩
theorem zm_M_324 : zMV "ThinkNumberModel" 324 K_M_isSlip 5 := ⟨Or.inl (tb_in (List.mem_append_right _ (List.mem_append_right _ (List.mem_append_right _ (List.mem_append_right _ (List.mem_append_right _ (List.mem_of_getElem? (i := 135) rfl)))))) rfl), zs_M_isSlip, zl_M_isSlip, zin_M, zy_M_isSlip, Nat.le_of_ble_eq_true rfl, by decide +kernel, by decide +kernel, by decide +kernel⟩
theorem zm_M_328 : zMS "ThinkNumberModel" 328 K_M_has 2 := ⟨Or.inl (tb_in (List.mem_append_right _ (List.mem_append_right _ (List.mem_append_right _ (List.mem_append_right _ (List.mem_append_right _ (List.mem_of_getElem? (i := 162) rfl)))))) rfl), zs_M_has, zin_M, zy_M_has, Nat.le_of_ble_eq_true rfl, by decide +kernel, by decide +kernel, by decide +kernel⟩
theorem zm_M_331 : zMV "ThinkNumberModel" 331 K_M_isLike 3 := ⟨Or.inl (tb_in (List.mem_append_right _ (List.mem_append_right _ (List.mem_append_right _ (List.mem_append_right _ (List.mem_append_right _ (List.mem_of_getElem? (i := 158) rfl)))))) rfl), zs_M_isLike, zl_M_isLike, zin_M, zy_M_isLike, Nat.le_of_ble_eq_true rfl, by decide +kernel, by decide +kernel, by decide +kernel⟩
theorem zm_M_334 : zMV "ThinkNumberModel" 334 K_M_takesBy 4 := ⟨Or.inl (tb_in (List.mem_append_right _ (List.mem_append_right _ (List.mem_append_right _ (List.mem_append_right _ (List.mem_append_right _ (List.mem_of_getElem? (i := 165) rfl)))))) rfl), zs_M_takesBy, zl_M_takesBy, zin_M, zy_M_takesBy, Nat.le_of_ble_eq_true rfl, by decide +kernel, by decide +kernel, by decide +kernel⟩
theorem zm_M_338 : zMV "ThinkNumberModel" 338 K_M_reckon 3 := ⟨Or.inl (tb_in (List.mem_append_right _ (List.mem_append_right _ (List.mem_append_right _ (List.mem_append_right _ (List.mem_append_right _ (List.mem_of_getElem? (i := 154) rfl)))))) rfl), zs_M_reckon, zl_M_reckon, zin_M, zy_M_reckon, Nat.le_of_ble_eq_true rfl, by decide +kernel, by decide +kernel, by decide +kernel⟩
theorem zm_M_341 : zMV "ThinkNumberModel" 341 K_M_hidden 0 := ⟨Or.inl (tb_in (List.mem_append_right _ (List.mem_append_right _ (List.mem_append_right _ (List.mem_append_right _ (List.mem_append_right _ (List.mem_of_getElem? (i := 173) rfl)))))) rfl), zs_M_hidden, zl_M_hidden, zin_M, zy_M_hidden, Nat.le_of_ble_eq_true rfl, by decide +kernel, by decide +kernel, by decide +kernel⟩
theorem zm_M_344 : zMV "ThinkNumberModel" 344 K_M_restBy 2 := ⟨Or.inl (tb_in (List.mem_append_right _ (List.mem_append_right _ (List.mem_append_right _ (List.mem_append_right _ (List.mem_append_right _ (List.mem_of_getElem? (i := 177) rfl)))))) rfl), zs_M_restBy, zl_M_restBy, zin_M, zy_M_restBy, Nat.le_of_ble_eq_true rfl, by decide +kernel, by decide +kernel, by decide +kernel⟩
theorem zm_M_347 : zMV "ThinkNumberModel" 347 K_M_keep 0 := ⟨Or.inl (tb_in (List.mem_append_right _ (List.mem_append_right _ (List.mem_append_right _ (List.mem_append_right _ (List.mem_append_right _ (List.mem_of_getElem? (i := 193) rfl)))))) rfl), zs_M_keep, zl_M_keep, zin_M, zy_M_keep, Nat.le_of_ble_eq_true rfl, by decide +kernel, by decide +kernel, by decide +kernel⟩
theorem zm_JStr_335 : zMV "java/lang/String" 335 K_JStr_coder 0 := ⟨Or.inl (tb_in (List.mem_append_right _ (List.mem_append_left _ (List.mem_of_getElem? (i := 185) rfl))) rfl), zs_JStr_coder, zl_JStr_coder, zin_JStr, zy_JStr_coder, Nat.le_of_ble_eq_true rfl, by decide +kernel, by decide +kernel, by decide +kernel⟩
theorem zm_JStr_492 : zMV "java/lang/String" 492 K_JStr_isLatin1 0 := ⟨Or.inl (tb_in (List.mem_append_right _ (List.mem_append_left _ (List.mem_of_getElem? (i := 195) rfl))) rfl), zs_JStr_isLatin1, zl_JStr_isLatin1, zin_JStr, zy_JStr_isLatin1, Nat.le_of_ble_eq_true rfl, by decide +kernel, by decide +kernel, by decide +kernel⟩
theorem zm_JStr_495 : zMS "java/lang/String" 495 K_JLat_charAt 2 := ⟨Or.inl (tb_in (List.mem_append_right _ (List.mem_append_left _ (List.mem_of_getElem? (i := 199) rfl))) rfl), zs_JLat_charAt, zin_JLat, zy_JLat_charAt, Nat.le_of_ble_eq_true rfl, by decide +kernel, by decide +kernel, by decide +kernel⟩
theorem zm_JStr_1059 : zMS "java/lang/String" 1059 K_JPre_checkIndex 3 := ⟨Or.inl (tb_in (List.mem_append_right _ (List.mem_append_left _ (List.mem_of_getElem? (i := 207) rfl))) rfl), zs_JPre_checkIndex, zin_JPre, zy_JPre_checkIndex, Nat.le_of_ble_eq_true rfl, by decide +kernel, by decide +kernel, by decide +kernel⟩
theorem zm_JLat_9 : zMS "java/lang/StringLatin1" 9 K_JStr_checkIndex 2 := ⟨Or.inl (tb_in (List.mem_append_right _ (List.mem_append_left _ (List.mem_of_getElem? (i := 202) rfl))) rfl), zs_JStr_checkIndex, zin_JStr, zy_JStr_checkIndex, Nat.le_of_ble_eq_true rfl, by decide +kernel, by decide +kernel, by decide +kernel⟩
theorem zMy_max : Cond.code Lib.Math.max.name Lib.Math.max.code 2 (some .int) ∈ tb := tb_in (List.mem_append_right _ (List.mem_append_right _ (List.mem_append_left _ (List.mem_of_getElem? (i := 189) rfl)))) rfl
theorem zMs_max : Cond.static Lib.Math.max.name ∈ tb := tb_in (List.mem_append_right _ (List.mem_append_right _ (List.mem_append_left _ (List.mem_of_getElem? (i := 188) rfl)))) rfl
theorem zm_A_328 : Cond.methodLink "ThinkNumber" 328 Lib.Math.max.name ∈ tb := tb_in (List.mem_append_right _ (List.mem_append_right _ (List.mem_append_right _ (List.mem_append_left _ (List.mem_of_getElem? (i := 139) rfl))))) rfl
theorem zm_State_47 : Cond.methodLink "ThinkNumber$State" 47 Lib.Math.max.name ∈ tb := tb_in (List.mem_append_right _ (List.mem_append_right _ (List.mem_append_right _ (List.mem_append_left _ (List.mem_of_getElem? (i := 173) rfl))))) rfl
theorem zm_Table_86 : Cond.methodLink "ThinkNumber$Table" 86 Lib.Math.max.name ∈ tb := tb_in (List.mem_append_right _ (List.mem_append_right _ (List.mem_append_left _ (List.mem_of_getElem? (i := 187) rfl)))) rfl
theorem zm_Tally_44 : Cond.methodLink "ThinkNumber$Tally" 44 Lib.Math.max.name ∈ tb := tb_in (List.mem_append_right _ (List.mem_append_right _ (List.mem_append_right _ (List.mem_append_left _ (List.mem_of_getElem? (i := 29) rfl))))) rfl
theorem zMy_min : Cond.code Lib.Math.min.name Lib.Math.min.code 2 (some .int) ∈ tb := tb_in (List.mem_append_right _ (List.mem_append_right _ (List.mem_append_left _ (List.mem_of_getElem? (i := 71) rfl)))) rfl
theorem zMs_min : Cond.static Lib.Math.min.name ∈ tb := tb_in (List.mem_append_right _ (List.mem_append_right _ (List.mem_append_left _ (List.mem_of_getElem? (i := 70) rfl)))) rfl
theorem zm_A_179 : Cond.methodLink "ThinkNumber" 179 Lib.Math.min.name ∈ tb := tb_in (List.mem_append_right _ (List.mem_append_right _ (List.mem_append_left _ (List.mem_of_getElem? (i := 161) rfl)))) rfl
theorem zm_Maker_37 : Cond.methodLink "ThinkNumber$Maker" 37 Lib.Math.min.name ∈ tb := tb_in (List.mem_append_right _ (List.mem_append_right _ (List.mem_append_right _ (List.mem_append_left _ (List.mem_of_getElem? (i := 89) rfl))))) rfl
theorem zm_Orders_26 : Cond.methodLink "ThinkNumber$Orders" 26 Lib.Math.min.name ∈ tb := tb_in (List.mem_append_right _ (List.mem_append_right _ (List.mem_append_right _ (List.mem_append_left _ (List.mem_of_getElem? (i := 206) rfl))))) rfl
theorem zm_Parting_28 : Cond.methodLink "ThinkNumber$Parting" 28 Lib.Math.min.name ∈ tb := tb_in (List.mem_append_right _ (List.mem_append_right _ (List.mem_append_right _ (List.mem_append_left _ (List.mem_of_getElem? (i := 43) rfl))))) rfl
theorem zm_Table_50 : Cond.methodLink "ThinkNumber$Table" 50 Lib.Math.min.name ∈ tb := tb_in (List.mem_append_right _ (List.mem_append_right _ (List.mem_append_left _ (List.mem_of_getElem? (i := 69) rfl)))) rfl
theorem zm_Tally_35 : Cond.methodLink "ThinkNumber$Tally" 35 Lib.Math.min.name ∈ tb := tb_in (List.mem_append_right _ (List.mem_append_right _ (List.mem_append_right _ (List.mem_append_left _ (List.mem_of_getElem? (i := 28) rfl))))) rfl
theorem zm_Values_50 : Cond.methodLink "ThinkNumber$Values" 50 Lib.Math.min.name ∈ tb := tb_in (List.mem_append_right _ (List.mem_append_right _ (List.mem_append_right _ (List.mem_append_left _ (List.mem_of_getElem? (i := 200) rfl))))) rfl
theorem zMy_abs : Cond.code Lib.MathLoose.abs_long.x Lib.MathLoose.abs_long.code 2 (some .long) ∈ tb := tb_in (List.mem_append_right _ (List.mem_append_right _ (List.mem_append_left _ (List.mem_of_getElem? (i := 99) rfl)))) rfl
theorem zMs_abs : Cond.static Lib.MathLoose.abs_long.x ∈ tb := tb_in (List.mem_append_right _ (List.mem_append_right _ (List.mem_append_left _ (List.mem_of_getElem? (i := 98) rfl)))) rfl
theorem zm_A_334 : Cond.methodLink "ThinkNumber" 334 Lib.MathLoose.abs_long.x ∈ tb := tb_in (List.mem_append_right _ (List.mem_append_right _ (List.mem_append_left _ (List.mem_of_getElem? (i := 97) rfl)))) rfl
theorem zMi : Cond.initialized "java/lang/Math" ∈ tb := tb_in (List.mem_append_left _ (List.mem_of_getElem? (i := 19) rfl)) rfl
theorem zm_Orders_32 : Cond.methodLink "ThinkNumber$Orders" 32 arraycopyName ∈ tb := tb_in (List.mem_append_right _ (List.mem_append_right _ (List.mem_append_right _ (List.mem_append_left _ (List.mem_of_getElem? (i := 207) rfl))))) rfl
theorem zm_Parting_74 : Cond.methodLink "ThinkNumber$Parting" 74 arraycopyName ∈ tb := tb_in (List.mem_append_right _ (List.mem_append_right _ (List.mem_append_right _ (List.mem_append_left _ (List.mem_of_getElem? (i := 73) rfl))))) rfl
theorem zm_State_56 : Cond.methodLink "ThinkNumber$State" 56 arraycopyName ∈ tb := tb_in (List.mem_append_right _ (List.mem_append_right _ (List.mem_append_right _ (List.mem_append_left _ (List.mem_of_getElem? (i := 195) rfl))))) rfl
theorem zm_Values_56 : Cond.methodLink "ThinkNumber$Values" 56 arraycopyName ∈ tb := tb_in (List.mem_append_right _ (List.mem_append_right _ (List.mem_append_right _ (List.mem_append_left _ (List.mem_of_getElem? (i := 201) rfl))))) rfl
theorem zac_n : Cond.native arraycopyName ∈ tb := tb_in (List.mem_append_right _ (List.mem_append_right _ (List.mem_append_right _ (List.mem_append_left _ (List.mem_of_getElem? (i := 75) rfl))))) rfl
theorem zac_s : Cond.static arraycopyName ∈ tb := tb_in (List.mem_append_right _ (List.mem_append_right _ (List.mem_append_right _ (List.mem_append_left _ (List.mem_of_getElem? (i := 74) rfl))))) rfl
theorem zac_i : Cond.initialized "java/lang/System" ∈ tb := tb_in (List.mem_append_left _ (List.mem_of_getElem? (i := 20) rfl)) rfl
