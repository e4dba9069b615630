def MT0 : List MD := [("WhyRoom$Ground", ⟨"WhyRoom$Ground", "isUsable", "(I)Z"⟩, prog_2_method_2_code, 2, some .boolean, k_X0_isUsable),
  ("WhyRoom$Ground", ⟨"WhyRoom$Ground", "usableFor", "(I)I"⟩, prog_2_method_3_code, 4, some .int, k_X0_usableFor),
  ("WhyRoom$Ground", ⟨"WhyRoom$Ground", "lossBits", "()I"⟩, prog_2_method_4_code, 3, some .int, k_X0_lossBits),
  ("WhyRoom$Ground", ⟨"WhyRoom$Ground", "isOver", "(I)Z"⟩, prog_2_method_5_code, 2, some .boolean, k_X0_isOver),
  ("WhyRoom$Ground", ⟨"WhyRoom$Ground", "openReasons", "(II)I"⟩, prog_2_method_6_code, 6, some .int, k_X0_openReasons),
  ("WhyRoom$Ground", ⟨"WhyRoom$Ground", "canGo", "(IIII)Z"⟩, prog_2_method_7_code, 5, some .boolean, k_X0_canGo),
  ("WhyRoom$Ground", ⟨"WhyRoom$Ground", "wayOut", "(II)I"⟩, prog_2_method_8_code, 3, some .int, k_X0_wayOut),
  ("WhyRoom$Ground", ⟨"WhyRoom$Ground", "standing", "()I"⟩, prog_2_method_9_code, 1, some .int, k_X0_standing),
  ("WhyRoom$Ground", ⟨"WhyRoom$Ground", "standingBy", "(II)I"⟩, prog_2_method_10_code, 9, some .int, k_X0_standingBy),
  ("WhyRoom$Ground", ⟨"WhyRoom$Ground", "fallingWithout", "(I)I"⟩, prog_2_method_11_code, 2, some .int, k_X0_fallingWithout),
  ("WhyRoom$Ground", ⟨"WhyRoom$Ground", "nextOf", "(I)I"⟩, prog_2_method_12_code, 4, some .int, k_X0_nextOf),
  ("WhyRoom$Ground", ⟨"WhyRoom$Ground", "reachOf", "(I)I"⟩, prog_2_method_13_code, 7, some .int, k_X0_reachOf),
  ("WhyRoom$Ground", ⟨"WhyRoom$Ground", "settledFrom", "(I)I"⟩, prog_2_method_14_code, 4, some .int, k_X0_settledFrom),
  ("WhyRoom$Ground", ⟨"WhyRoom$Ground", "thinnestFrom", "(I)I"⟩, prog_2_method_15_code, 7, some .int, k_X0_thinnestFrom),
  ("WhyRoom$Losses", ⟨"WhyRoom$Losses", "losingBits", "()I"⟩, prog_3_method_2_code, 6, some .int, k_X1_losingBits),
  ("WhyRoom$Losses", ⟨"WhyRoom$Losses", "forcedInto", "(I)I"⟩, prog_3_method_3_code, 5, some .int, k_X1_forcedInto),
  ("WhyRoom$Losses", ⟨"WhyRoom$Losses", "answersToLoss", "(I)I"⟩, prog_3_method_4_code, 2, some .int, k_X1_answersToLoss),
  ("WhyRoom$Losses", ⟨"WhyRoom$Losses", "safeReason", "(I)I"⟩, prog_3_method_5_code, 4, some .int, k_X1_safeReason),
  ("WhyRoom$Lots", ⟨"WhyRoom$Lots", "rowsBetween", "(III)I"⟩, prog_4_method_2_code, 4, some .int, k_X2_rowsBetween),
  ("WhyRoom$Lots", ⟨"WhyRoom$Lots", "countLinks", "()V"⟩, prog_4_method_3_code, 4, none, k_X2_countLinks),
  ("WhyRoom$Lots", ⟨"WhyRoom$Lots", "rowsOn", "(IIII)I"⟩, prog_4_method_4_code, 8, some .int, k_X2_rowsOn),
  ("WhyRoom$Lots", ⟨"WhyRoom$Lots", "shareOfLoss", "(II)J"⟩, prog_4_method_5_code, 8, some .long, k_X2_shareOfLoss),
  ("WhyRoom$Lots", ⟨"WhyRoom$Lots", "shareByReasons", "(I)J"⟩, prog_4_method_6_code, 8, some .long, k_X2_shareByReasons),
  ("WhyRoom$Lots", ⟨"WhyRoom$Lots", "shareByParts", "(I)J"⟩, prog_4_method_7_code, 5, some .long, k_X2_shareByParts),
  ("WhyRoom$Lots", ⟨"WhyRoom$Lots", "goOn", "(II)I"⟩, prog_4_method_8_code, 9, some .int, k_X2_goOn),
  ("WhyRoom$Lots", ⟨"WhyRoom$Lots", "drawn", "(IJ)I"⟩, prog_4_method_9_code, 7, some .int, k_X2_drawn),
  ("WhyRoom$Needs", ⟨"WhyRoom$Needs", "wordsFor", "(I)I"⟩, prog_5_method_2_code, 7, some .int, k_X3_wordsFor),
  ("WhyRoom$Needs", ⟨"WhyRoom$Needs", "fellingOf", "(I)I"⟩, prog_5_method_3_code, 7, some .int, k_X3_fellingOf),
  ("WhyRoom$Needs", ⟨"WhyRoom$Needs", "actsEachWay", "(I)I"⟩, prog_5_method_4_code, 5, some .int, k_X3_actsEachWay),
  ("WhyRoom$Needs", ⟨"WhyRoom$Needs", "actsSomeWay", "(I)I"⟩, prog_5_method_5_code, 9, some .int, k_X3_actsSomeWay),
  ("WhyRoom$Needs", ⟨"WhyRoom$Needs", "nextSubset", "(II)I"⟩, prog_5_method_6_code, 2, some .int, k_X3_nextSubset),
  ("WhyRoom$Needs", ⟨"WhyRoom$Needs", "isEnoughWithOneLess", "(I)Z"⟩, prog_5_method_7_code, 3, some .boolean, k_X3_isEnoughWithOneLess),
  ("WhyRoom$Needs", ⟨"WhyRoom$Needs", "isEnough", "(I)Z"⟩, prog_5_method_8_code, 3, some .boolean, k_X3_isEnough),
  ("WhyRoom$Needs", ⟨"WhyRoom$Needs", "markEnough", "(IZ)V"⟩, prog_5_method_9_code, 4, none, k_X3_markEnough),
  ("WhyRoom$Reader", ⟨"WhyRoom$Reader", "faultOf", "(LWhyRoom$Text;)I"⟩, prog_6_method_2_code, 3, some .int, k_X4_faultOf),
  ("WhyRoom$Reader", ⟨"WhyRoom$Reader", "passBlanks", "(LWhyRoom$Text;)V"⟩, prog_6_method_3_code, 3, none, k_X4_passBlanks),
  ("WhyRoom$Reader", ⟨"WhyRoom$Reader", "readItem", "(LWhyRoom$Text;)Z"⟩, prog_6_method_4_code, 4, some .boolean, k_X4_readItem),
  ("WhyRoom$Reader", ⟨"WhyRoom$Reader", "readReason", "(LWhyRoom$Text;)Z"⟩, prog_6_method_5_code, 6, some .boolean, k_X4_readReason),
  ("WhyRoom$Reader", ⟨"WhyRoom$Reader", "readParts", "(LWhyRoom$Text;II)I"⟩, prog_6_method_6_code, 7, some .int, k_X4_readParts),
  ("WhyRoom$Reader", ⟨"WhyRoom$Reader", "kindOf", "(I)I"⟩, prog_6_method_7_code, 1, some .int, k_X4_kindOf)]
def MT1 : List MD := [("WhyRoom$Row", ⟨"WhyRoom$Row", "isMissing", "()Z"⟩, prog_7_method_2_code, 1, some .boolean, k_X5_isMissing),
  ("WhyRoom$Row", ⟨"WhyRoom$Row", "renew", "(I)V"⟩, prog_7_method_3_code, 2, none, k_X5_renew),
  ("WhyRoom$Row", ⟨"WhyRoom$Row", "take", "([II)V"⟩, prog_7_method_4_code, 4, none, k_X5_take),
  ("WhyRoom$Row", ⟨"WhyRoom$Row", "spans", "(II)Z"⟩, prog_7_method_5_code, 3, some .boolean, k_X5_spans),
  ("WhyRoom$Row", ⟨"WhyRoom$Row", "sum", "()J"⟩, prog_7_method_6_code, 4, some .long, k_X5_sum),
  ("WhyRoom$Scheme", ⟨"WhyRoom$Scheme", "clear", "()V"⟩, prog_8_method_2_code, 1, none, k_X6_clear),
  ("WhyRoom$Scheme", ⟨"WhyRoom$Scheme", "become", "(LWhyRoom$Scheme;)V"⟩, prog_8_method_3_code, 2, none, k_X6_become),
  ("WhyRoom$Scheme", ⟨"WhyRoom$Scheme", "addClaim", "(I)Z"⟩, prog_8_method_4_code, 2, some .boolean, k_X6_addClaim),
  ("WhyRoom$Scheme", ⟨"WhyRoom$Scheme", "addReason", "(III)Z"⟩, prog_8_method_5_code, 4, some .boolean, k_X6_addReason),
  ("WhyRoom$Scheme", ⟨"WhyRoom$Scheme", "takesReason", "(I)Z"⟩, prog_8_method_6_code, 2, some .boolean, k_X6_takesReason),
  ("WhyRoom$Scheme", ⟨"WhyRoom$Scheme", "allBits", "()I"⟩, prog_8_method_7_code, 1, some .int, k_X6_allBits),
  ("WhyRoom$Scheme", ⟨"WhyRoom$Scheme", "bitsOf", "(I)I"⟩, prog_8_method_8_code, 2, some .int, k_X6_bitsOf),
  ("WhyRoom$Scheme", ⟨"WhyRoom$Scheme", "reasonsFor", "(I)I"⟩, prog_8_method_9_code, 4, some .int, k_X6_reasonsFor),
  ("WhyRoom$Scheme", ⟨"WhyRoom$Scheme", "reasonsWith", "(I)I"⟩, prog_8_method_10_code, 4, some .int, k_X6_reasonsWith),
  ("WhyRoom$State", ⟨"WhyRoom$State", "renew", "(LWhyRoom$Scheme;)V"⟩, prog_9_method_2_code, 2, none, k_X7_renew),
  ("WhyRoom$State", ⟨"WhyRoom$State", "become", "(LWhyRoom$State;)V"⟩, prog_9_method_3_code, 2, none, k_X7_become),
  ("WhyRoom$State", ⟨"WhyRoom$State", "hasEvening", "()Z"⟩, prog_9_method_4_code, 1, some .boolean, k_X7_hasEvening),
  ("WhyRoom$State", ⟨"WhyRoom$State", "answers", "()I"⟩, prog_9_method_5_code, 1, some .int, k_X7_answers),
  ("WhyRoom$State", ⟨"WhyRoom$State", "place", "()I"⟩, prog_9_method_6_code, 1, some .int, k_X7_place),
  ("WhyRoom$State", ⟨"WhyRoom$State", "open", "(I)V"⟩, prog_9_method_7_code, 2, none, k_X7_open),
  ("WhyRoom$State", ⟨"WhyRoom$State", "goTo", "(I)V"⟩, prog_9_method_8_code, 2, none, k_X7_goTo),
  ("WhyRoom$State", ⟨"WhyRoom$State", "cutTo", "(I)V"⟩, prog_9_method_9_code, 2, none, k_X7_cutTo),
  ("WhyRoom$State", ⟨"WhyRoom$State", "barredBits", "()I"⟩, prog_9_method_10_code, 3, some .int, k_X7_barredBits),
  ("WhyRoom$Tale", ⟨"WhyRoom$Tale", "goodPairs", "(LWhyRoom$Row;)I"⟩, prog_10_method_2_code, 9, some .int, k_X8_goodPairs),
  ("WhyRoom$Tale", ⟨"WhyRoom$Tale", "reasonsIn", "(LWhyRoom$Row;)I"⟩, prog_10_method_3_code, 4, some .int, k_X8_reasonsIn),
  ("WhyRoom$Tale", ⟨"WhyRoom$Tale", "claimsIn", "(LWhyRoom$Row;)I"⟩, prog_10_method_4_code, 5, some .int, k_X8_claimsIn),
  ("WhyRoom$Tale", ⟨"WhyRoom$Tale", "liesIn", "(LWhyRoom$Row;)I"⟩, prog_10_method_5_code, 4, some .int, k_X8_liesIn),
  ("WhyRoom$Text", ⟨"WhyRoom$Text", "isMissing", "()Z"⟩, prog_11_method_2_code, 1, some .boolean, k_X9_isMissing),
  ("WhyRoom$Text", ⟨"WhyRoom$Text", "renew", "(I)V"⟩, prog_11_method_3_code, 2, none, k_X9_renew),
  ("WhyRoom$Text", ⟨"WhyRoom$Text", "signAt", "(I)I"⟩, prog_11_method_4_code, 2, some .int, k_X9_signAt),
  ("WhyRoom$Text", ⟨"WhyRoom$Text", "figureAt", "(I)I"⟩, prog_11_method_5_code, 3, some .int, k_X9_figureAt),
  ("WhyRoom$Ways", ⟨"WhyRoom$Ways", "leastFrom", "(II)I"⟩, prog_12_method_2_code, 6, some .int, k_X10_leastFrom),
  ("WhyRoom$Ways", ⟨"WhyRoom$Ways", "firstLeast", "(II)I"⟩, prog_12_method_3_code, 5, some .int, k_X10_firstLeast),
  ("WhyRoom$Ways", ⟨"WhyRoom$Ways", "relax", "(II)Z"⟩, prog_12_method_4_code, 7, some .boolean, k_X10_relax),
  ("WhyRoom$Ways", ⟨"WhyRoom$Ways", "isFirm", "(II)Z"⟩, prog_12_method_5_code, 3, some .boolean, k_X10_isFirm),
  ("WhyRoom$Ways", ⟨"WhyRoom$Ways", "costBy", "(II)I"⟩, prog_12_method_6_code, 6, some .int, k_X10_costBy),
  ("WhyRoom$Ways", ⟨"WhyRoom$Ways", "longestFrom", "(I)I"⟩, prog_12_method_7_code, 3, some .int, k_X10_longestFrom),
  ("WhyRoom$Ways", ⟨"WhyRoom$Ways", "goFurther", "(III)V"⟩, prog_12_method_8_code, 5, none, k_X10_goFurther),
  ("WhyRoom", ⟨"WhyRoom", "row", "(II)I"⟩, prog_1_method_2_code, 3, some .int, k_X11_row),
  ("WhyRoom", ⟨"WhyRoom", "lay", "(III)I"⟩, prog_1_method_3_code, 5, some .int, k_X11_lay)]
def MT2 : List MD := [("WhyRoom", ⟨"WhyRoom", "at", "(II)I"⟩, prog_1_method_4_code, 4, some .int, k_X11_at),
  ("WhyRoom", ⟨"WhyRoom", "tear", "(I)I"⟩, prog_1_method_5_code, 2, some .int, k_X11_tear),
  ("WhyRoom", ⟨"WhyRoom", "copy", "(IIIII)I"⟩, prog_1_method_6_code, 8, some .int, k_X11_copy),
  ("WhyRoom", ⟨"WhyRoom", "mean", "(I)I"⟩, prog_1_method_7_code, 3, some .int, k_X11_mean),
  ("WhyRoom", ⟨"WhyRoom", "text", "(II)I"⟩, prog_1_method_8_code, 3, some .int, k_X11_text),
  ("WhyRoom", ⟨"WhyRoom", "put", "(III)I"⟩, prog_1_method_9_code, 6, some .int, k_X11_put),
  ("WhyRoom", ⟨"WhyRoom", "fault", "(I)I"⟩, prog_1_method_10_code, 2, some .int, k_X11_fault),
  ("WhyRoom", ⟨"WhyRoom", "room", "(I)I"⟩, prog_1_method_11_code, 3, some .int, k_X11_room),
  ("WhyRoom", ⟨"WhyRoom", "claim", "(II)I"⟩, prog_1_method_12_code, 3, some .int, k_X11_claim),
  ("WhyRoom", ⟨"WhyRoom", "reason", "(II)I"⟩, prog_1_method_13_code, 3, some .int, k_X11_reason),
  ("WhyRoom", ⟨"WhyRoom", "mark", "(II)I"⟩, prog_1_method_14_code, 3, some .int, k_X11_mark),
  ("WhyRoom", ⟨"WhyRoom", "trust", "(II)I"⟩, prog_1_method_15_code, 4, some .int, k_X11_trust),
  ("WhyRoom", ⟨"WhyRoom", "away", "(II)I"⟩, prog_1_method_16_code, 4, some .int, k_X11_away),
  ("WhyRoom", ⟨"WhyRoom", "learn", "(II)I"⟩, prog_1_method_17_code, 4, some .int, k_X11_learn),
  ("WhyRoom", ⟨"WhyRoom", "law", "(I)I"⟩, prog_1_method_18_code, 3, some .int, k_X11_law),
  ("WhyRoom", ⟨"WhyRoom", "begin", "(I)I"⟩, prog_1_method_19_code, 2, some .int, k_X11_begin),
  ("WhyRoom", ⟨"WhyRoom", "answer", "(II)I"⟩, prog_1_method_20_code, 3, some .int, k_X11_answer),
  ("WhyRoom", ⟨"WhyRoom", "undo", "(I)I"⟩, prog_1_method_21_code, 3, some .int, k_X11_undo),
  ("WhyRoom", ⟨"WhyRoom", "here", "()I"⟩, prog_1_method_22_code, 1, some .int, k_X11_here),
  ("WhyRoom", ⟨"WhyRoom", "may", "()I"⟩, prog_1_method_23_code, 1, some .int, k_X11_may),
  ("WhyRoom", ⟨"WhyRoom", "ends", "()I"⟩, prog_1_method_24_code, 1, some .int, k_X11_ends),
  ("WhyRoom", ⟨"WhyRoom", "asks", "(I)I"⟩, prog_1_method_25_code, 2, some .int, k_X11_asks),
  ("WhyRoom", ⟨"WhyRoom", "image", "(I)I"⟩, prog_1_method_26_code, 2, some .int, k_X11_image),
  ("WhyRoom", ⟨"WhyRoom", "on", "(I)I"⟩, prog_1_method_27_code, 2, some .int, k_X11_on),
  ("WhyRoom", ⟨"WhyRoom", "stands", "()I"⟩, prog_1_method_28_code, 2, some .int, k_X11_stands),
  ("WhyRoom", ⟨"WhyRoom", "soonest", "(I)I"⟩, prog_1_method_29_code, 3, some .int, k_X11_soonest),
  ("WhyRoom", ⟨"WhyRoom", "steps", "(I)I"⟩, prog_1_method_30_code, 2, some .int, k_X11_steps),
  ("WhyRoom", ⟨"WhyRoom", "sure", "(I)I"⟩, prog_1_method_31_code, 3, some .int, k_X11_sure),
  ("WhyRoom", ⟨"WhyRoom", "longest", "(II)I"⟩, prog_1_method_32_code, 4, some .int, k_X11_longest),
  ("WhyRoom", ⟨"WhyRoom", "lost", "()I"⟩, prog_1_method_33_code, 1, some .int, k_X11_lost),
  ("WhyRoom", ⟨"WhyRoom", "never", "(I)I"⟩, prog_1_method_34_code, 2, some .int, k_X11_never),
  ("WhyRoom", ⟨"WhyRoom", "game", "(I)I"⟩, prog_1_method_35_code, 2, some .int, k_X11_game),
  ("WhyRoom", ⟨"WhyRoom", "words", "(I)I"⟩, prog_1_method_36_code, 2, some .int, k_X11_words),
  ("WhyRoom", ⟨"WhyRoom", "agree", "(I)I"⟩, prog_1_method_37_code, 2, some .int, k_X11_agree),
  ("WhyRoom", ⟨"WhyRoom", "thin", "(I)I"⟩, prog_1_method_38_code, 3, some .int, k_X11_thin),
  ("WhyRoom", ⟨"WhyRoom", "without", "(I)I"⟩, prog_1_method_39_code, 2, some .int, k_X11_without),
  ("WhyRoom", ⟨"WhyRoom", "falls", "(I)I"⟩, prog_1_method_40_code, 3, some .int, k_X11_falls),
  ("WhyRoom", ⟨"WhyRoom", "whose", "(I)I"⟩, prog_1_method_41_code, 2, some .int, k_X11_whose),
  ("WhyRoom", ⟨"WhyRoom", "judge", "(I)I"⟩, prog_1_method_42_code, 4, some .int, k_X11_judge),
  ("WhyRoom", ⟨"WhyRoom", "held", "(I)I"⟩, prog_1_method_43_code, 3, some .int, k_X11_held)]
def MT3 : List MD := [("WhyRoom", ⟨"WhyRoom", "lied", "(I)I"⟩, prog_1_method_44_code, 4, some .int, k_X11_lied),
  ("WhyRoom", ⟨"WhyRoom", "fits", "(III)I"⟩, prog_1_method_45_code, 4, some .int, k_X11_fits),
  ("WhyRoom", ⟨"WhyRoom", "odds", "(II)I"⟩, prog_1_method_46_code, 5, some .int, k_X11_odds),
  ("WhyRoom", ⟨"WhyRoom", "night", "(II)I"⟩, prog_1_method_47_code, 3, some .int, k_X11_night),
  ("WhyRoom", ⟨"WhyRoom", "asked", "()I"⟩, prog_1_method_48_code, 1, some .int, k_X11_asked),
  ("WhyRoom", ⟨"WhyRoom", "upper", "()J"⟩, prog_1_method_49_code, 1, some .long, k_X11_upper),
  ("WhyRoom", ⟨"WhyRoom", "lower", "()J"⟩, prog_1_method_50_code, 1, some .long, k_X11_lower),
  ("WhyRoom", ⟨"WhyRoom", "count", "(I)I"⟩, prog_1_method_51_code, 2, some .int, k_X11_count),
  ("WhyRoom", ⟨"WhyRoom", "finding", "()I"⟩, prog_1_method_52_code, 1, some .int, k_X11_finding),
  ("WhyRoom", ⟨"WhyRoom", "findings", "(I)I"⟩, prog_1_method_53_code, 2, some .int, k_X11_findings),
  ("WhyRoom", ⟨"WhyRoom", "digest", "()J"⟩, prog_1_method_54_code, 4, some .long, k_X11_digest),
  ("WhyRoom", ⟨"WhyRoom", "refuse", "(I)I"⟩, prog_1_method_55_code, 2, some .int, k_X11_refuse),
  ("WhyRoom", ⟨"WhyRoom", "isRow", "(I)Z"⟩, prog_1_method_56_code, 1, some .boolean, k_X11_isRow),
  ("WhyRoom", ⟨"WhyRoom", "isText", "(I)Z"⟩, prog_1_method_57_code, 1, some .boolean, k_X11_isText),
  ("WhyRoom", ⟨"WhyRoom", "isImage", "(I)Z"⟩, prog_1_method_58_code, 1, some .boolean, k_X11_isImage),
  ("WhyRoom", ⟨"WhyRoom", "isSwitch", "(I)Z"⟩, prog_1_method_59_code, 1, some .boolean, k_X11_isSwitch),
  ("WhyRoom", ⟨"WhyRoom", "isClaim", "(I)Z"⟩, prog_1_method_60_code, 2, some .boolean, k_X11_isClaim),
  ("WhyRoom", ⟨"WhyRoom", "isReason", "(I)Z"⟩, prog_1_method_61_code, 2, some .boolean, k_X11_isReason),
  ("WhyRoom", ⟨"WhyRoom", "has", "(II)Z"⟩, prog_1_method_62_code, 2, some .boolean, k_X11_has),
  ("WhyRoom", ⟨"WhyRoom", "bit", "(II)I"⟩, prog_1_method_63_code, 2, some .int, k_X11_bit),
  ("WhyRoom", ⟨"WhyRoom", "withBit", "(III)I"⟩, prog_1_method_64_code, 3, some .int, k_X11_withBit),
  ("WhyRoom", ⟨"WhyRoom", "commonDivisor", "(JJ)J"⟩, prog_1_method_65_code, 11, some .long, k_X11_commonDivisor),
  ("WhyRoom", ⟨"WhyRoom", "overHere", "()I"⟩, prog_1_method_66_code, 1, some .int, k_X11_overHere),
  ("WhyRoom", ⟨"WhyRoom", "factOfClaim", "(II)I"⟩, prog_1_method_67_code, 3, some .int, k_X11_factOfClaim),
  ("WhyRoom", ⟨"WhyRoom", "factOfReason", "(II)I"⟩, prog_1_method_68_code, 3, some .int, k_X11_factOfReason),
  ("WhyRoom", ⟨"WhyRoom", "howMany", "(I)I"⟩, prog_1_method_69_code, 2, some .int, k_X11_howMany),
  ("WhyRoom", ⟨"WhyRoom", "rowsThere", "()I"⟩, prog_1_method_70_code, 3, some .int, k_X11_rowsThere),
  ("WhyRoom", ⟨"WhyRoom", "textsThere", "()I"⟩, prog_1_method_71_code, 3, some .int, k_X11_textsThere),
  ("WhyRoom", ⟨"WhyRoom", "imagesThere", "()I"⟩, prog_1_method_72_code, 3, some .int, k_X11_imagesThere),
  ("WhyRoom", ⟨"WhyRoom", "refusalOfTale", "(I)I"⟩, prog_1_method_73_code, 5, some .int, k_X11_refusalOfTale),
  ("WhyRoom", ⟨"WhyRoom", "withFacts", "(J)J"⟩, prog_1_method_74_code, 7, some .long, k_X11_withFacts),
  ("WhyRoom", ⟨"WhyRoom", "withEvening", "(J)J"⟩, prog_1_method_75_code, 6, some .long, k_X11_withEvening),
  ("WhyRoom", ⟨"WhyRoom", "withRow", "(JLWhyRoom$Row;)J"⟩, prog_1_method_76_code, 6, some .long, k_X11_withRow),
  ("WhyRoom", ⟨"WhyRoom", "withText", "(JLWhyRoom$Text;)J"⟩, prog_1_method_77_code, 6, some .long, k_X11_withText),
  ("WhyRoomModel", ⟨"WhyRoomModel", "in", "(III)Z"⟩, prog_14_method_2_code, 3, some .boolean, k_X12_in),
  ("WhyRoomModel", ⟨"WhyRoomModel", "has", "(II)Z"⟩, prog_14_method_3_code, 2, some .boolean, k_X12_has),
  ("WhyRoomModel", ⟨"WhyRoomModel", "bits", "(I)I"⟩, prog_14_method_4_code, 3, some .int, k_X12_bits),
  ("WhyRoomModel", ⟨"WhyRoomModel", "lesser", "(II)I"⟩, prog_14_method_5_code, 2, some .int, k_X12_lesser),
  ("WhyRoomModel", ⟨"WhyRoomModel", "greater", "(II)I"⟩, prog_14_method_6_code, 2, some .int, k_X12_greater),
  ("WhyRoomModel", ⟨"WhyRoomModel", "meets", "(I)I"⟩, prog_14_method_7_code, 2, some .int, k_X12_meets)]
def MT4 : List MD := [("WhyRoomModel", ⟨"WhyRoomModel", "finding", "()I"⟩, prog_14_method_8_code, 1, some .int, k_X12_finding),
  ("WhyRoomModel", ⟨"WhyRoomModel", "findings", "(I)I"⟩, prog_14_method_9_code, 2, some .int, k_X12_findings),
  ("WhyRoomModel", ⟨"WhyRoomModel", "tells", "(II)I"⟩, prog_14_method_10_code, 3, some .int, k_X12_tells),
  ("WhyRoomModel", ⟨"WhyRoomModel", "asked", "()I"⟩, prog_14_method_11_code, 1, some .int, k_X12_asked),
  ("WhyRoomModel", ⟨"WhyRoomModel", "part", "(JJ)I"⟩, prog_14_method_12_code, 11, some .int, k_X12_part),
  ("WhyRoomModel", ⟨"WhyRoomModel", "upper", "()J"⟩, prog_14_method_13_code, 1, some .long, k_X12_upper),
  ("WhyRoomModel", ⟨"WhyRoomModel", "lower", "()J"⟩, prog_14_method_14_code, 1, some .long, k_X12_lower),
  ("WhyRoomModel", ⟨"WhyRoomModel", "isRow", "(I)Z"⟩, prog_14_method_15_code, 1, some .boolean, k_X12_isRow),
  ("WhyRoomModel", ⟨"WhyRoomModel", "rowAt", "(II)I"⟩, prog_14_method_16_code, 3, some .int, k_X12_rowAt),
  ("WhyRoomModel", ⟨"WhyRoomModel", "row", "(II)I"⟩, prog_14_method_17_code, 4, some .int, k_X12_row),
  ("WhyRoomModel", ⟨"WhyRoomModel", "lay", "(III)I"⟩, prog_14_method_18_code, 5, some .int, k_X12_lay),
  ("WhyRoomModel", ⟨"WhyRoomModel", "at", "(II)I"⟩, prog_14_method_19_code, 3, some .int, k_X12_at),
  ("WhyRoomModel", ⟨"WhyRoomModel", "tear", "(I)I"⟩, prog_14_method_20_code, 2, some .int, k_X12_tear),
  ("WhyRoomModel", ⟨"WhyRoomModel", "copy", "(IIIII)I"⟩, prog_14_method_21_code, 7, some .int, k_X12_copy),
  ("WhyRoomModel", ⟨"WhyRoomModel", "mean", "(I)I"⟩, prog_14_method_22_code, 5, some .int, k_X12_mean),
  ("WhyRoomModel", ⟨"WhyRoomModel", "isText", "(I)Z"⟩, prog_14_method_23_code, 1, some .boolean, k_X12_isText),
  ("WhyRoomModel", ⟨"WhyRoomModel", "text", "(II)I"⟩, prog_14_method_24_code, 4, some .int, k_X12_text),
  ("WhyRoomModel", ⟨"WhyRoomModel", "put", "(III)I"⟩, prog_14_method_25_code, 5, some .int, k_X12_put),
  ("WhyRoomModel", ⟨"WhyRoomModel", "byteAt", "(II)I"⟩, prog_14_method_26_code, 3, some .int, k_X12_byteAt),
  ("WhyRoomModel", ⟨"WhyRoomModel", "layRow", "(I[II)V"⟩, prog_14_method_27_code, 5, none, k_X12_layRow),
  ("WhyRoomModel", ⟨"WhyRoomModel", "kindOf", "(I)I"⟩, prog_14_method_28_code, 1, some .int, k_X12_kindOf),
  ("WhyRoomModel", ⟨"WhyRoomModel", "isEndKind", "(I)Z"⟩, prog_14_method_29_code, 1, some .boolean, k_X12_isEndKind),
  ("WhyRoomModel", ⟨"WhyRoomModel", "figure", "(III)Z"⟩, prog_14_method_30_code, 5, some .boolean, k_X12_figure),
  ("WhyRoomModel", ⟨"WhyRoomModel", "readsClaim", "(I)Z"⟩, prog_14_method_31_code, 3, some .boolean, k_X12_readsClaim),
  ("WhyRoomModel", ⟨"WhyRoomModel", "readFor", "(I)I"⟩, prog_14_method_32_code, 4, some .int, k_X12_readFor),
  ("WhyRoomModel", ⟨"WhyRoomModel", "readsReason", "(I)Z"⟩, prog_14_method_33_code, 6, some .boolean, k_X12_readsReason),
  ("WhyRoomModel", ⟨"WhyRoomModel", "faultOf", "(I)I"⟩, prog_14_method_34_code, 3, some .int, k_X12_faultOf),
  ("WhyRoomModel", ⟨"WhyRoomModel", "fault", "(I)I"⟩, prog_14_method_35_code, 2, some .int, k_X12_fault),
  ("WhyRoomModel", ⟨"WhyRoomModel", "room", "(I)I"⟩, prog_14_method_36_code, 3, some .int, k_X12_room),
  ("WhyRoomModel", ⟨"WhyRoomModel", "isClaim", "(I)Z"⟩, prog_14_method_37_code, 2, some .boolean, k_X12_isClaim),
  ("WhyRoomModel", ⟨"WhyRoomModel", "isReason", "(I)Z"⟩, prog_14_method_38_code, 2, some .boolean, k_X12_isReason),
  ("WhyRoomModel", ⟨"WhyRoomModel", "allClaims", "()I"⟩, prog_14_method_39_code, 1, some .int, k_X12_allClaims),
  ("WhyRoomModel", ⟨"WhyRoomModel", "allReasons", "()I"⟩, prog_14_method_40_code, 1, some .int, k_X12_allReasons),
  ("WhyRoomModel", ⟨"WhyRoomModel", "isEnd", "(I)Z"⟩, prog_14_method_41_code, 2, some .boolean, k_X12_isEnd),
  ("WhyRoomModel", ⟨"WhyRoomModel", "isAct", "(I)Z"⟩, prog_14_method_42_code, 2, some .boolean, k_X12_isAct),
  ("WhyRoomModel", ⟨"WhyRoomModel", "reasonsFor", "(I)I"⟩, prog_14_method_43_code, 4, some .int, k_X12_reasonsFor),
  ("WhyRoomModel", ⟨"WhyRoomModel", "reasonsWith", "(I)I"⟩, prog_14_method_44_code, 4, some .int, k_X12_reasonsWith),
  ("WhyRoomModel", ⟨"WhyRoomModel", "isUsable", "(I)Z"⟩, prog_14_method_45_code, 2, some .boolean, k_X12_isUsable),
  ("WhyRoomModel", ⟨"WhyRoomModel", "usableFor", "(I)I"⟩, prog_14_method_46_code, 4, some .int, k_X12_usableFor),
  ("WhyRoomModel", ⟨"WhyRoomModel", "isAtLoss", "(I)Z"⟩, prog_14_method_47_code, 2, some .boolean, k_X12_isAtLoss)]
def MT5 : List MD := [("WhyRoomModel", ⟨"WhyRoomModel", "lossSet", "()I"⟩, prog_14_method_48_code, 3, some .int, k_X12_lossSet),
  ("WhyRoomModel", ⟨"WhyRoomModel", "standing", "(II)I"⟩, prog_14_method_49_code, 7, some .int, k_X12_standing),
  ("WhyRoomModel", ⟨"WhyRoomModel", "standNow", "()I"⟩, prog_14_method_50_code, 1, some .int, k_X12_standNow),
  ("WhyRoomModel", ⟨"WhyRoomModel", "standWithout", "(I)I"⟩, prog_14_method_51_code, 2, some .int, k_X12_standWithout),
  ("WhyRoomModel", ⟨"WhyRoomModel", "claimTells", "(II)I"⟩, prog_14_method_52_code, 3, some .int, k_X12_claimTells),
  ("WhyRoomModel", ⟨"WhyRoomModel", "claim", "(II)I"⟩, prog_14_method_53_code, 3, some .int, k_X12_claim),
  ("WhyRoomModel", ⟨"WhyRoomModel", "reasonTells", "(II)I"⟩, prog_14_method_54_code, 3, some .int, k_X12_reasonTells),
  ("WhyRoomModel", ⟨"WhyRoomModel", "reason", "(II)I"⟩, prog_14_method_55_code, 3, some .int, k_X12_reason),
  ("WhyRoomModel", ⟨"WhyRoomModel", "fallSet", "(I)I"⟩, prog_14_method_56_code, 2, some .int, k_X12_fallSet),
  ("WhyRoomModel", ⟨"WhyRoomModel", "actSet", "()I"⟩, prog_14_method_57_code, 3, some .int, k_X12_actSet),
  ("WhyRoomModel", ⟨"WhyRoomModel", "mark", "(II)I"⟩, prog_14_method_58_code, 4, some .int, k_X12_mark),
  ("WhyRoomModel", ⟨"WhyRoomModel", "trust", "(II)I"⟩, prog_14_method_59_code, 4, some .int, k_X12_trust),
  ("WhyRoomModel", ⟨"WhyRoomModel", "away", "(II)I"⟩, prog_14_method_60_code, 4, some .int, k_X12_away),
  ("WhyRoomModel", ⟨"WhyRoomModel", "learn", "(II)I"⟩, prog_14_method_61_code, 4, some .int, k_X12_learn),
  ("WhyRoomModel", ⟨"WhyRoomModel", "law", "(I)I"⟩, prog_14_method_62_code, 3, some .int, k_X12_law),
  ("WhyRoomModel", ⟨"WhyRoomModel", "mayAsk", "(I[II)I"⟩, prog_14_method_63_code, 6, some .int, k_X12_mayAsk),
  ("WhyRoomModel", ⟨"WhyRoomModel", "isOver", "(I)Z"⟩, prog_14_method_64_code, 2, some .boolean, k_X12_isOver),
  ("WhyRoomModel", ⟨"WhyRoomModel", "mayAnswer", "([II)I"⟩, prog_14_method_65_code, 6, some .int, k_X12_mayAnswer),
  ("WhyRoomModel", ⟨"WhyRoomModel", "endOf", "([II)I"⟩, prog_14_method_66_code, 4, some .int, k_X12_endOf),
  ("WhyRoomModel", ⟨"WhyRoomModel", "begin", "(I)I"⟩, prog_14_method_67_code, 2, some .int, k_X12_begin),
  ("WhyRoomModel", ⟨"WhyRoomModel", "canAnswer", "([IIII)Z"⟩, prog_14_method_68_code, 5, some .boolean, k_X12_canAnswer),
  ("WhyRoomModel", ⟨"WhyRoomModel", "answer", "(II)I"⟩, prog_14_method_69_code, 3, some .int, k_X12_answer),
  ("WhyRoomModel", ⟨"WhyRoomModel", "answerMany", "()I"⟩, prog_14_method_70_code, 1, some .int, k_X12_answerMany),
  ("WhyRoomModel", ⟨"WhyRoomModel", "undo", "(I)I"⟩, prog_14_method_71_code, 3, some .int, k_X12_undo),
  ("WhyRoomModel", ⟨"WhyRoomModel", "here", "()I"⟩, prog_14_method_72_code, 1, some .int, k_X12_here),
  ("WhyRoomModel", ⟨"WhyRoomModel", "may", "()I"⟩, prog_14_method_73_code, 1, some .int, k_X12_may),
  ("WhyRoomModel", ⟨"WhyRoomModel", "ends", "()I"⟩, prog_14_method_74_code, 1, some .int, k_X12_ends),
  ("WhyRoomModel", ⟨"WhyRoomModel", "asks", "(I)I"⟩, prog_14_method_75_code, 3, some .int, k_X12_asks),
  ("WhyRoomModel", ⟨"WhyRoomModel", "image", "(I)I"⟩, prog_14_method_76_code, 3, some .int, k_X12_image),
  ("WhyRoomModel", ⟨"WhyRoomModel", "on", "(I)I"⟩, prog_14_method_77_code, 3, some .int, k_X12_on),
  ("WhyRoomModel", ⟨"WhyRoomModel", "stands", "()I"⟩, prog_14_method_78_code, 2, some .int, k_X12_stands),
  ("WhyRoomModel", ⟨"WhyRoomModel", "takeThens", "()V"⟩, prog_14_method_79_code, 2, none, k_X12_takeThens),
  ("WhyRoomModel", ⟨"WhyRoomModel", "layFar", "()V"⟩, prog_14_method_80_code, 4, none, k_X12_layFar),
  ("WhyRoomModel", ⟨"WhyRoomModel", "greatestPart", "(I)I"⟩, prog_14_method_81_code, 4, some .int, k_X12_greatestPart),
  ("WhyRoomModel", ⟨"WhyRoomModel", "soonest", "(I)I"⟩, prog_14_method_82_code, 5, some .int, k_X12_soonest),
  ("WhyRoomModel", ⟨"WhyRoomModel", "sumParts", "(I)I"⟩, prog_14_method_83_code, 4, some .int, k_X12_sumParts),
  ("WhyRoomModel", ⟨"WhyRoomModel", "steps", "(I)I"⟩, prog_14_method_84_code, 6, some .int, k_X12_steps),
  ("WhyRoomModel", ⟨"WhyRoomModel", "leastSure", "(I)I"⟩, prog_14_method_85_code, 4, some .int, k_X12_leastSure),
  ("WhyRoomModel", ⟨"WhyRoomModel", "sure", "(I)I"⟩, prog_14_method_86_code, 5, some .int, k_X12_sure),
  ("WhyRoomModel", ⟨"WhyRoomModel", "nextSet", "(I)I"⟩, prog_14_method_87_code, 4, some .int, k_X12_nextSet)]
def MT6 : List MD := [("WhyRoomModel", ⟨"WhyRoomModel", "layLongest", "(II)V"⟩, prog_14_method_88_code, 5, none, k_X12_layLongest),
  ("WhyRoomModel", ⟨"WhyRoomModel", "longest", "(II)I"⟩, prog_14_method_89_code, 3, some .int, k_X12_longest),
  ("WhyRoomModel", ⟨"WhyRoomModel", "layLoss", "()V"⟩, prog_14_method_90_code, 3, none, k_X12_layLoss),
  ("WhyRoomModel", ⟨"WhyRoomModel", "areAllLost", "(I)Z"⟩, prog_14_method_91_code, 4, some .boolean, k_X12_areAllLost),
  ("WhyRoomModel", ⟨"WhyRoomModel", "hasLost", "(I)Z"⟩, prog_14_method_92_code, 4, some .boolean, k_X12_hasLost),
  ("WhyRoomModel", ⟨"WhyRoomModel", "lost", "()I"⟩, prog_14_method_93_code, 3, some .int, k_X12_lost),
  ("WhyRoomModel", ⟨"WhyRoomModel", "never", "(I)I"⟩, prog_14_method_94_code, 4, some .int, k_X12_never),
  ("WhyRoomModel", ⟨"WhyRoomModel", "game", "(I)I"⟩, prog_14_method_95_code, 2, some .int, k_X12_game),
  ("WhyRoomModel", ⟨"WhyRoomModel", "words", "(I)I"⟩, prog_14_method_96_code, 6, some .int, k_X12_words),
  ("WhyRoomModel", ⟨"WhyRoomModel", "comesTo", "(I)I"⟩, prog_14_method_97_code, 5, some .int, k_X12_comesTo),
  ("WhyRoomModel", ⟨"WhyRoomModel", "agree", "(I)I"⟩, prog_14_method_98_code, 5, some .int, k_X12_agree),
  ("WhyRoomModel", ⟨"WhyRoomModel", "thin", "(I)I"⟩, prog_14_method_99_code, 6, some .int, k_X12_thin),
  ("WhyRoomModel", ⟨"WhyRoomModel", "without", "(I)I"⟩, prog_14_method_100_code, 2, some .int, k_X12_without),
  ("WhyRoomModel", ⟨"WhyRoomModel", "falls", "(I)I"⟩, prog_14_method_101_code, 5, some .int, k_X12_falls),
  ("WhyRoomModel", ⟨"WhyRoomModel", "isLean", "(II)Z"⟩, prog_14_method_102_code, 5, some .boolean, k_X12_isLean),
  ("WhyRoomModel", ⟨"WhyRoomModel", "whose", "(I)I"⟩, prog_14_method_103_code, 5, some .int, k_X12_whose),
  ("WhyRoomModel", ⟨"WhyRoomModel", "needTold", "(I)I"⟩, prog_14_method_104_code, 4, some .int, k_X12_needTold),
  ("WhyRoomModel", ⟨"WhyRoomModel", "judge", "(I)I"⟩, prog_14_method_105_code, 4, some .int, k_X12_judge),
  ("WhyRoomModel", ⟨"WhyRoomModel", "held", "(I)I"⟩, prog_14_method_106_code, 6, some .int, k_X12_held),
  ("WhyRoomModel", ⟨"WhyRoomModel", "lied", "(I)I"⟩, prog_14_method_107_code, 7, some .int, k_X12_lied),
  ("WhyRoomModel", ⟨"WhyRoomModel", "fitsFrom", "(III)I"⟩, prog_14_method_108_code, 9, some .int, k_X12_fitsFrom),
  ("WhyRoomModel", ⟨"WhyRoomModel", "fits", "(III)I"⟩, prog_14_method_109_code, 4, some .int, k_X12_fits),
  ("WhyRoomModel", ⟨"WhyRoomModel", "lossFrom", "(IIJ)J"⟩, prog_14_method_110_code, 10, some .long, k_X12_lossFrom),
  ("WhyRoomModel", ⟨"WhyRoomModel", "odds", "(II)I"⟩, prog_14_method_111_code, 6, some .int, k_X12_odds),
  ("WhyRoomModel", ⟨"WhyRoomModel", "pick", "(II)I"⟩, prog_14_method_112_code, 4, some .int, k_X12_pick),
  ("WhyRoomModel", ⟨"WhyRoomModel", "night", "(II)I"⟩, prog_14_method_113_code, 9, some .int, k_X12_night),
  ("WhyRoomModel", ⟨"WhyRoomModel", "counted", "(I)I"⟩, prog_14_method_114_code, 4, some .int, k_X12_counted),
  ("WhyRoomModel", ⟨"WhyRoomModel", "count", "(I)I"⟩, prog_14_method_115_code, 2, some .int, k_X12_count),
  ("WhyRoomModel", ⟨"WhyRoomModel", "mix", "(J)V"⟩, prog_14_method_116_code, 3, none, k_X12_mix),
  ("WhyRoomModel", ⟨"WhyRoomModel", "mixRoom", "()V"⟩, prog_14_method_117_code, 3, none, k_X12_mixRoom),
  ("WhyRoomModel", ⟨"WhyRoomModel", "digest", "()J"⟩, prog_14_method_118_code, 3, some .long, k_X12_digest),
  ("java/lang/Integer", ⟨"java/lang/Integer", "bitCount", "(I)I"⟩, prog_15_method_49_code, 1, some .int, k_J6_bitCount_0f7a4),
  ("java/lang/Math", ⟨"java/lang/Math", "max", "(II)I"⟩, prog_16_method_65_code, 2, some .int, k_J9_max_7cf53),
  ("java/lang/Math", ⟨"java/lang/Math", "min", "(II)I"⟩, prog_16_method_69_code, 2, some .int, k_J9_min_7cf53),
  ("java/util/Arrays", ⟨"java/util/Arrays", "fill", "([II)V"⟩, prog_18_method_103_code, 4, none, k_J7_fill_53178),
  ("java/util/Arrays", ⟨"java/util/Arrays", "fill", "([BB)V"⟩, prog_18_method_109_code, 4, none, k_J7_fill_031fb)]
def MT : List MD := MT0 ++ (MT1 ++ (MT2 ++ (MT3 ++ (MT4 ++ (MT5 ++ (MT6))))))
def FLs : FLT := [("WhyRoom$Ground", 15, 0, 1), ("WhyRoom$Ground", 19, 7, 3), ("WhyRoom$Ground", 9, 0, 0), ("WhyRoom$Ground", 25, 6, 2), ("WhyRoom$Ground", 35, 6, 3), ("WhyRoom$Ground", 38, 6, 6), ("WhyRoom$Ground", 69, 6, 5), ("WhyRoom$Losses", 19, 1, 1), ("WhyRoom$Losses", 15, 1, 0), ("WhyRoom$Losses", 29, 6, 5), ("WhyRoom$Losses", 9, 1, 2), ("WhyRoom$Losses", 49, 6, 6), ("WhyRoom$Losses", 56, 6, 3), ("WhyRoom$Losses", 59, 6, 2), ("WhyRoom$Lots", 26, 2, 1), ("WhyRoom$Lots", 37, 7, 5), ("WhyRoom$Lots", 18, 2, 5), ("WhyRoom$Lots", 22, 2, 0), ("WhyRoom$Lots", 53, 6, 6), ("WhyRoom$Lots", 58, 6, 5), ("WhyRoom$Lots", 30, 2, 2), ("WhyRoom$Lots", 67, 6, 3), ("WhyRoom$Lots", 74, 6, 2), ("WhyRoom$Lots", 9, 2, 3), ("WhyRoom$Lots", 15, 2, 4), ("WhyRoom$Needs", 15, 3, 0), ("WhyRoom$Needs", 19, 3, 1), ("WhyRoom$Needs", 33, 7, 4), ("WhyRoom$Needs", 23, 3, 2), ("WhyRoom$Needs", 53, 7, 3), ("WhyRoom$Needs", 67, 6, 5), ("WhyRoom$Needs", 9, 3, 3), ("WhyRoom$Reader", 12, 4, 0), ("WhyRoom$Reader", 21, 4, 1), ("WhyRoom$Reader", 29, 9, 1), ("WhyRoom$Reader", 34, 6, 5), ("WhyRoom$Reader", 51, 6, 6), ("WhyRoom$Row", 15, 5, 1), ("WhyRoom$Row", 9, 5, 0), ("WhyRoom$Scheme", 27, 6, 5), ("WhyRoom$Scheme", 31, 6, 6), ("WhyRoom$Scheme", 15, 6, 1), ("WhyRoom$Scheme", 9, 6, 0), ("WhyRoom$Scheme", 18, 6, 2), ("WhyRoom$Scheme", 21, 6, 3), ("WhyRoom$Scheme", 24, 6, 4), ("WhyRoom$State", 18, 7, 2), ("WhyRoom$State", 22, 7, 3), ("WhyRoom$State", 25, 7, 4), ("WhyRoom$State", 28, 7, 5), ("WhyRoom$State", 31, 6, 4), ("WhyRoom$State", 9, 7, 0), ("WhyRoom$State", 15, 7, 1), ("WhyRoom$Tale", 23, 5, 0), ("WhyRoom$Tale", 29, 5, 1), ("WhyRoom$Tale", 19, 8, 2), ("WhyRoom$Tale", 15, 8, 1), ("WhyRoom$Tale", 33, 7, 5), ("WhyRoom$Tale", 48, 8, 3), ("WhyRoom$Tale", 9, 8, 0), ("WhyRoom$Tale", 50, 6, 3), ("WhyRoom$Tale", 55, 8, 4), ("WhyRoom$Tale", 58, 6, 2), ("WhyRoom$Text", 15, 9, 1), ("WhyRoom$Text", 9, 9, 0), ("WhyRoom$Ways", 32, 10, 3), ("WhyRoom$Ways", 24, 10, 1), ("WhyRoom$Ways", 42, 6, 5), ("WhyRoom$Ways", 15, 10, 4), ("WhyRoom$Ways", 60, 6, 6), ("WhyRoom$Ways", 63, 6, 2), ("WhyRoom$Ways", 82, 6, 3), ("WhyRoom$Ways", 28, 10, 2), ("WhyRoom$Ways", 88, 7, 0), ("WhyRoom$Ways", 18, 10, 5), ("WhyRoom$Ways", 96, 10, 7), ("WhyRoom$Ways", 21, 10, 6), ("WhyRoom$Ways", 9, 10, 0), ("WhyRoom", 11, 11, 0), ("WhyRoom", 124, 5, 0), ("WhyRoom", 127, 11, 14), ("WhyRoom", 131, 5, 1), ("WhyRoom", 18, 11, 1), ("WhyRoom", 149, 9, 1), ("WhyRoom", 150, 9, 0), ("WhyRoom", 33, 11, 3), ("WhyRoom", 40, 11, 4), ("WhyRoom", 158, 4, 0), ("WhyRoom", 44, 11, 5), ("WhyRoom", 25, 11, 2), ("WhyRoom", 167, 7, 6), ("WhyRoom", 171, 6, 5), ("WhyRoom", 53, 11, 6), ("WhyRoom", 205, 7, 3), ("WhyRoom", 211, 7, 4), ("WhyRoom", 217, 7, 0), ("WhyRoom", 227, 7, 5), ("WhyRoom", 264, 7, 1), ("WhyRoom", 267, 7, 2), ("WhyRoom", 62, 11, 7), ("WhyRoom", 295, 10, 0), ("WhyRoom", 71, 11, 8), ("WhyRoom", 78, 11, 9), ("WhyRoom", 85, 11, 10), ("WhyRoom", 335, 8, 3), ("WhyRoom", 349, 8, 4), ("WhyRoom", 92, 11, 11), ("WhyRoom", 359, 11, 15), ("WhyRoom", 100, 11, 16), ("WhyRoom", 375, 11, 13), ("WhyRoom", 96, 11, 12), ("WhyRoom", 397, 6, 6), ("WhyRoom", 403, 6, 0), ("WhyRoom", 409, 6, 2), ("WhyRoom", 412, 6, 3), ("WhyRoomModel", 88, 12, 0), ("WhyRoomModel", 7, 12, 1), ("WhyRoomModel", 96, 12, 2), ("WhyRoomModel", 99, 12, 3), ("WhyRoomModel", 13, 12, 4), ("WhyRoomModel", 20, 12, 6), ("WhyRoomModel", 17, 12, 5), ("WhyRoomModel", 23, 12, 7), ("WhyRoomModel", 26, 12, 8), ("WhyRoomModel", 29, 12, 9), ("WhyRoomModel", 120, 12, 19), ("WhyRoomModel", 126, 12, 20), ("WhyRoomModel", 132, 12, 21), ("WhyRoomModel", 135, 12, 22), ("WhyRoomModel", 45, 12, 23), ("WhyRoomModel", 48, 12, 24), ("WhyRoomModel", 51, 12, 25), ("WhyRoomModel", 54, 12, 26), ("WhyRoomModel", 160, 12, 10), ("WhyRoomModel", 163, 12, 11), ("WhyRoomModel", 33, 12, 12), ("WhyRoomModel", 36, 12, 13), ("WhyRoomModel", 39, 12, 14), ("WhyRoomModel", 42, 12, 15), ("WhyRoomModel", 166, 12, 16), ("WhyRoomModel", 169, 12, 17), ("WhyRoomModel", 172, 12, 18), ("WhyRoomModel", 175, 12, 27), ("WhyRoomModel", 60, 12, 29), ("WhyRoomModel", 57, 12, 28), ("WhyRoomModel", 64, 12, 30), ("WhyRoomModel", 70, 12, 32), ("WhyRoomModel", 67, 12, 31), ("WhyRoomModel", 73, 12, 33), ("WhyRoomModel", 76, 12, 34), ("WhyRoomModel", 79, 12, 35), ("WhyRoomModel", 285, 12, 38), ("WhyRoomModel", 85, 12, 37), ("WhyRoomModel", 82, 12, 36), ("WhyRoomModel", 342, 12, 39)]
def MLs : FLT := [("WhyRoom$Ground", 31, 2, 138), ("WhyRoom$Ground", 41, 0, 0), ("WhyRoom$Ground", 45, 0, 50), ("WhyRoom$Ground", 49, 0, 51), ("WhyRoom$Ground", 53, 0, 2), ("WhyRoom$Ground", 56, 0, 4), ("WhyRoom$Ground", 60, 0, 8), ("WhyRoom$Ground", 63, 0, 7), ("WhyRoom$Ground", 66, 0, 11), ("WhyRoom$Ground", 72, 0, 1), ("WhyRoom$Ground", 75, 1, 271), ("WhyRoom$Losses", 23, 0, 2), ("WhyRoom$Losses", 35, 2, 138), ("WhyRoom$Losses", 39, 0, 15), ("WhyRoom$Losses", 43, 0, 50), ("WhyRoom$Losses", 46, 0, 51), ("WhyRoom$Losses", 52, 0, 0), ("WhyRoom$Losses", 62, 0, 14), ("WhyRoom$Lots", 34, 0, 19), ("WhyRoom$Lots", 43, 0, 20), ("WhyRoom$Lots", 47, 1, 274), ("WhyRoom$Lots", 61, 0, 0), ("WhyRoom$Lots", 70, 2, 138), ("WhyRoom$Lots", 77, 0, 2), ("WhyRoom$Lots", 81, 2, 139), ("WhyRoom$Lots", 87, 9, 0), ("WhyRoom$Lots", 93, 0, 22), ("WhyRoom$Lots", 97, 0, 1), ("WhyRoom$Lots", 101, 1, 271), ("WhyRoom$Lots", 106, 0, 23), ("WhyRoom$Lots", 109, 0, 62), ("WhyRoom$Lots", 112, 0, 58), ("WhyRoom$Lots", 115, 0, 4), ("WhyRoom$Lots", 122, 1, 25), ("WhyRoom$Lots", 128, 0, 60), ("WhyRoom$Needs", 27, 0, 51), ("WhyRoom$Needs", 39, 0, 11), ("WhyRoom$Needs", 44, 0, 7), ("WhyRoom$Needs", 48, 1, 271), ("WhyRoom$Needs", 56, 0, 8), ("WhyRoom$Needs", 60, 2, 138), ("WhyRoom$Needs", 64, 1, 30), ("WhyRoom$Needs", 70, 1, 274), ("WhyRoom$Needs", 76, 0, 31), ("WhyRoom$Needs", 80, 0, 33), ("WhyRoom$Needs", 84, 0, 32), ("WhyRoom$Reader", 18, 0, 45), ("WhyRoom$Reader", 25, 0, 35), ("WhyRoom$Reader", 37, 0, 36), ("WhyRoom$Reader", 41, 0, 69), ("WhyRoom$Reader", 45, 0, 37), ("WhyRoom$Reader", 48, 1, 39), ("WhyRoom$Reader", 54, 0, 47), ("WhyRoom$Reader", 58, 0, 70), ("WhyRoom$Reader", 61, 0, 49), ("WhyRoom$Reader", 64, 0, 38), ("WhyRoom$Reader", 68, 0, 48), ("WhyRoom$Reader", 72, 2, 138), ("WhyRoom$Row", 19, 1, 274), ("WhyRoom$Row", 25, 0, 41), ("WhyRoom$Scheme", 34, 1, 274), ("WhyRoom$Scheme", 40, 9, 0), ("WhyRoom$Scheme", 46, 0, 51), ("WhyRoom$Scheme", 50, 2, 138), ("WhyRoom$Scheme", 54, 0, 52), ("WhyRoom$Scheme", 57, 1, 271), ("WhyRoom$Scheme", 62, 0, 50), ("WhyRoom$State", 34, 9, 0), ("WhyRoom$Tale", 38, 0, 5), ("WhyRoom$Tale", 44, 0, 6), ("WhyRoom$Text", 19, 1, 275), ("WhyRoom$Text", 25, 0, 69), ("WhyRoom$Ways", 36, 0, 7), ("WhyRoom$Ways", 48, 0, 51), ("WhyRoom$Ways", 52, 2, 138), ("WhyRoom$Ways", 57, 0, 73), ("WhyRoom$Ways", 66, 0, 74), ("WhyRoom$Ways", 69, 0, 75), ("WhyRoom$Ways", 73, 1, 273), ("WhyRoom$Ways", 78, 0, 0), ("WhyRoom$Ways", 85, 1, 272), ("WhyRoom$Ways", 93, 0, 10), ("WhyRoom$Ways", 99, 0, 11), ("WhyRoom$Ways", 102, 0, 77), ("WhyRoom$Ways", 106, 1, 271), ("WhyRoom$Ways", 111, 9, 0), ("WhyRoom", 104, 1, 132), ("WhyRoom", 108, 0, 131), ("WhyRoom", 112, 0, 41), ("WhyRoom", 116, 0, 40), ("WhyRoom", 120, 0, 43), ("WhyRoom", 134, 9, 0), ("WhyRoom", 140, 0, 44), ("WhyRoom", 144, 1, 133), ("WhyRoom", 147, 0, 68), ("WhyRoom", 148, 0, 67), ("WhyRoom", 154, 0, 34), ("WhyRoom", 161, 0, 46), ("WhyRoom", 165, 0, 54), ("WhyRoom", 174, 0, 136), ("WhyRoom", 177, 0, 143), ("WhyRoom", 181, 0, 137), ("WhyRoom", 184, 0, 144), ("WhyRoom", 187, 0, 51), ("WhyRoom", 190, 1, 138), ("WhyRoom", 193, 0, 53), ("WhyRoom", 196, 1, 271), ("WhyRoom", 201, 0, 2), ("WhyRoom", 208, 0, 9), ("WhyRoom", 214, 1, 139), ("WhyRoom", 220, 1, 135), ("WhyRoom", 223, 1, 140), ("WhyRoom", 230, 0, 59), ("WhyRoom", 233, 0, 142), ("WhyRoom", 236, 0, 56), ("WhyRoom", 239, 0, 58), ("WhyRoom", 242, 0, 62), ("WhyRoom", 245, 0, 5), ("WhyRoom", 249, 0, 57), ("WhyRoom", 252, 0, 60), ("WhyRoom", 255, 0, 61), ("WhyRoom", 258, 0, 4), ("WhyRoom", 261, 0, 6), ("WhyRoom", 270, 0, 42), ("WhyRoom", 274, 1, 134), ("WhyRoom", 277, 0, 55), ("WhyRoom", 280, 0, 7), ("WhyRoom", 283, 0, 50), ("WhyRoom", 286, 0, 71), ("WhyRoom", 289, 0, 72), ("WhyRoom", 292, 0, 76), ("WhyRoom", 298, 0, 14), ("WhyRoom", 301, 0, 17), ("WhyRoom", 304, 0, 16), ("WhyRoom", 307, 0, 26), ("WhyRoom", 310, 0, 12), ("WhyRoom", 313, 0, 13), ("WhyRoom", 316, 0, 1), ("WhyRoom", 319, 0, 27), ("WhyRoom", 322, 0, 29), ("WhyRoom", 325, 0, 28), ("WhyRoom", 328, 0, 149), ("WhyRoom", 331, 0, 63), ("WhyRoom", 337, 0, 64), ("WhyRoom", 340, 0, 8), ("WhyRoom", 343, 0, 65), ("WhyRoom", 346, 0, 66), ("WhyRoom", 352, 0, 18), ("WhyRoom", 355, 0, 21), ("WhyRoom", 364, 1, 141), ("WhyRoom", 369, 0, 24), ("WhyRoom", 372, 0, 145), ("WhyRoom", 382, 0, 150), ("WhyRoom", 386, 0, 151), ("WhyRoom", 389, 1, 152), ("WhyRoom", 393, 1, 153), ("WhyRoom", 400, 0, 3), ("WhyRoom", 406, 0, 52), ("WhyRoom", 415, 0, 146), ("WhyRoom", 418, 0, 147), ("WhyRoom", 421, 0, 148), ("WhyRoomModel", 92, 1, 154), ("WhyRoomModel", 102, 1, 167), ("WhyRoomModel", 106, 0, 159), ("WhyRoomModel", 110, 0, 168), ("WhyRoomModel", 114, 0, 162), ("WhyRoomModel", 117, 1, 175), ("WhyRoomModel", 123, 0, 178), ("WhyRoomModel", 129, 1, 180), ("WhyRoomModel", 138, 1, 181), ("WhyRoomModel", 141, 0, 184), ("WhyRoomModel", 144, 0, 182), ("WhyRoomModel", 147, 1, 155), ("WhyRoomModel", 151, 0, 185), ("WhyRoomModel", 154, 0, 183), ("WhyRoomModel", 157, 0, 186), ("WhyRoomModel", 178, 0, 197), ("WhyRoomModel", 181, 0, 198), ("WhyRoomModel", 184, 0, 199), ("WhyRoomModel", 187, 0, 191), ("WhyRoomModel", 191, 0, 192), ("WhyRoomModel", 194, 0, 201), ("WhyRoomModel", 197, 0, 195), ("WhyRoomModel", 200, 0, 196), ("WhyRoomModel", 203, 0, 202), ("WhyRoomModel", 206, 0, 189), ("WhyRoomModel", 209, 0, 204), ("WhyRoomModel", 212, 0, 190), ("WhyRoomModel", 215, 0, 206), ("WhyRoomModel", 218, 0, 203), ("WhyRoomModel", 221, 0, 194), ("WhyRoomModel", 224, 1, 156), ("WhyRoomModel", 227, 0, 200), ("WhyRoomModel", 230, 0, 208), ("WhyRoomModel", 233, 0, 209), ("WhyRoomModel", 236, 0, 193), ("WhyRoomModel", 239, 0, 216), ("WhyRoomModel", 242, 0, 215), ("WhyRoomModel", 246, 0, 217), ("WhyRoomModel", 250, 0, 220), ("WhyRoomModel", 254, 0, 222), ("WhyRoomModel", 257, 0, 218), ("WhyRoomModel", 260, 1, 157), ("WhyRoomModel", 263, 0, 179), ("WhyRoomModel", 267, 0, 231), ("WhyRoomModel", 270, 0, 233), ("WhyRoomModel", 273, 1, 158), ("WhyRoomModel", 276, 0, 232), ("WhyRoomModel", 279, 0, 235), ("WhyRoomModel", 282, 0, 237), ("WhyRoomModel", 288, 0, 239), ("WhyRoomModel", 291, 0, 240), ("WhyRoomModel", 295, 0, 243), ("WhyRoomModel", 298, 0, 244), ("WhyRoomModel", 301, 0, 242), ("WhyRoomModel", 304, 0, 249), ("WhyRoomModel", 307, 0, 254), ("WhyRoomModel", 310, 0, 256), ("WhyRoomModel", 313, 0, 260), ("WhyRoomModel", 317, 0, 262), ("WhyRoomModel", 323, 0, 164), ("WhyRoomModel", 332, 1, 264), ("WhyRoomModel", 337, 0, 266), ("WhyRoomModel", 345, 0, 268), ("WhyRoomModel", 353, 0, 269)]
def CIs : CIT := [("WhyRoom$Ground", 80, 1000000), ("WhyRoom$Ways", 56, 1000000), ("WhyRoom", 368, 2147483647), ("WhyRoomModel", 327, 2147483646), ("java/lang/Integer", 265, 1431655765), ("java/lang/Integer", 266, 858993459), ("java/lang/Integer", 267, 252645135)]
def CJs : CJT := [("WhyRoom$Lots", 85, 72), ("WhyRoom$Lots", 118, 48271), ("WhyRoom$Lots", 120, 2147483647), ("WhyRoom$Lots", 126, 64), ("WhyRoom", 362, 72), ("WhyRoom", 378, 17), ("WhyRoom", 380, 31), ("WhyRoom", 424, (-1)), ("WhyRoomModel", 321, 72), ("WhyRoomModel", 328, 48271), ("WhyRoomModel", 330, 2147483647), ("WhyRoomModel", 335, 64), ("WhyRoomModel", 340, 31), ("WhyRoomModel", 349, (-1)), ("WhyRoomModel", 351, 17)]
def FLx : List Nat := [265, 160, 264, 203, 210, 227, 225, 310, 309, 219, 311, 230, 211, 205, 369, 167, 373, 368, 228, 222, 370, 212, 206, 371, 372, 325, 326, 165, 327, 162, 223, 328, 248, 250, 138, 221, 231, 119, 116, 218, 226, 201, 199, 202, 209, 216, 158, 161, 164, 168, 217, 153, 156, 117, 120, 346, 345, 169, 347, 344, 213, 349, 207, 137, 135, 281, 279, 220, 282, 229, 204, 214, 280, 154, 283, 285, 284, 277, 388, 118, 402, 121, 389, 139, 136, 391, 392, 249, 393, 390, 171, 224, 394, 163, 166, 155, 170, 157, 159, 395, 278, 396, 397, 398, 348, 350, 399, 403, 404, 401, 400, 232, 200, 208, 215, 1135, 1136, 1137, 1138, 1139, 1141, 1140, 1142, 1143, 1144, 1154, 1155, 1156, 1157, 1158, 1159, 1160, 1161, 1145, 1146, 1147, 1148, 1149, 1150, 1151, 1152, 1153, 1162, 1164, 1163, 1165, 1167, 1166, 1168, 1169, 1170, 1173, 1172, 1171, 1174]
theorem fl_ok : ∀ t ∈ FLs, FLok t := by
  have h : ((FLs.zip FLx).all fun x => match vwCl[x.1.2.2.1]? with
    | some r => decide (x.1.2.2.2 < r.2.2) && decide (lw_tbl[x.2]? = some (Cond.fieldLink x.1.1 x.1.2.1 r.1 (r.2.1 x.1.2.2.2).2.1 (r.2.1 x.1.2.2.2).2.2.1))
    | none => false) = true := by decide +kernel
  have hl : FLs.length = FLx.length := by decide +kernel
  intro t ht
  obtain ⟨i, hi⟩ := List.getElem?_of_mem ht
  have hli := (List.getElem?_eq_some_iff.mp hi).1
  have hz : (FLs.zip FLx)[i]? = some (t, FLx[i]'(by omega)) := by
    rw [List.getElem?_zip_eq_some]
    exact ⟨hi, List.getElem?_eq_getElem (by omega)⟩
  have h1 := List.all_eq_true.mp h _ (List.mem_of_getElem? hz)
  simp only at h1
  split at h1
  · rename_i r hr
    simp only [Bool.and_eq_true, decide_eq_true_eq] at h1
    exact ⟨r, hr, h1.1, lw_gi (List.mem_of_getElem? h1.2) rfl⟩
  · cases h1
theorem pl_ok {α : Type} (l : List α) (ps : List Nat) (f : α → Cond) (h : ps.map (fun i => lw_tbl[i]?) = l.map (fun t => some (f t))) : ∀ t ∈ l, f t ∈ lw_tbl := by
  intro t ht
  obtain ⟨i, hi⟩ := List.getElem?_of_mem ht
  have h1 : (l.map (fun t => some (f t)))[i]? = some (some (f t)) := by rw [List.getElem?_map, hi]; rfl
  rw [← h, List.getElem?_map] at h1
  cases hp : ps[i]? with
  | none => rw [hp] at h1; cases h1
  | some j =>
    rw [hp] at h1
    exact List.mem_of_getElem? (Option.some.inj h1)
theorem ci_ok : ∀ t ∈ CIs, Cond.constant t.1 t.2.1 t.2.2 ∈ lw_g := fun t ht => lw_gi (pl_ok CIs [930, 803, 1053, 1693, 571, 572, 573] (fun t => Cond.constant t.1 t.2.1 t.2.2) (by decide +kernel) t ht) rfl
theorem cj_ok : ∀ t ∈ CJs, Cond.constantLong t.1 t.2.1 t.2.2 ∈ lw_g := fun t ht => lw_gi (pl_ok CJs [1033, 1061, 1062, 1066, 1045, 1112, 1113, 1122, 1680, 1694, 1695, 1699, 1717, 1722, 1712] (fun t => Cond.constantLong t.1 t.2.1 t.2.2) (by decide +kernel) t ht) rfl
set_option maxRecDepth 1000000 in
theorem mc_0 : ∀ md ∈ MT0, Cond.code md.2.1 md.2.2.1 md.2.2.2.1 md.2.2.2.2.1 ∈ lw_tbl := pl_ok MT0 [661, 920, 656, 708, 729, 725, 762, 624, 628, 665, 846, 850, 915, 929, 864, 870, 890, 881, 1011, 1015, 1022, 1030, 1038, 1044, 1057, 1065, 898, 943, 968, 951, 907, 956, 960, 964, 522, 531, 539, 543, 577, 585] (fun md => Cond.code md.2.1 md.2.2.1 md.2.2.2.1 md.2.2.2.2.1) rfl
theorem mi_0 : ∀ md ∈ MT0, Cond.initialized md.2.1.cls ∈ lw_tbl := pl_ok MT0 [90, 90, 90, 90, 90, 90, 90, 90, 90, 90, 90, 90, 90, 90, 92, 92, 92, 92, 95, 95, 95, 95, 95, 95, 95, 95, 93, 93, 93, 93, 93, 93, 93, 93, 88, 88, 88, 88, 88, 88] (fun md => Cond.initialized md.2.1.cls) (by decide +kernel)
theorem mb_0 : (MT0.all fun md => plainFor md.2.1 && decide (md.2.1.cls ≠ "java/lang/invoke/MethodHandle") && decide (md.2.1.cls ≠ "java/lang/invoke/VarHandle") && decide (md.1 = md.2.1.cls) && decide (md.2.2.2.1 ≤ 21) && decide (pcA md.2.2.2.2.2 0 = 0)) = true := by decide +kernel
set_option maxRecDepth 1000000 in
theorem mc_1 : ∀ md ∈ MT1, Cond.code md.2.1 md.2.2.1 md.2.2.2.1 md.2.2.2.2.1 ∈ lw_tbl := pl_ok MT1 [465, 454, 770, 469, 492, 526, 597, 589, 582, 552, 560, 556, 567, 620, 602, 782, 717, 733, 704, 696, 737, 745, 721, 980, 990, 995, 1003, 514, 503, 535, 547, 799, 826, 807, 811, 816, 842, 854, 443, 461] (fun md => Cond.code md.2.1 md.2.2.1 md.2.2.2.1 md.2.2.2.2.1) rfl
theorem mi_1 : ∀ md ∈ MT1, Cond.initialized md.2.1.cls ∈ lw_tbl := pl_ok MT1 [85, 85, 85, 85, 85, 89, 89, 89, 89, 89, 89, 89, 89, 89, 87, 87, 87, 87, 87, 87, 87, 87, 87, 94, 94, 94, 94, 86, 86, 86, 86, 91, 91, 91, 91, 91, 91, 91, 84, 84] (fun md => Cond.initialized md.2.1.cls) (by decide +kernel)
theorem mb_1 : (MT1.all fun md => plainFor md.2.1 && decide (md.2.1.cls ≠ "java/lang/invoke/MethodHandle") && decide (md.2.1.cls ≠ "java/lang/invoke/VarHandle") && decide (md.1 = md.2.1.cls) && decide (md.2.2.2.1 ≤ 21) && decide (pcA md.2.2.2.2.2 0 = 0)) = true := by decide +kernel
set_option maxRecDepth 1000000 in
theorem mc_2 : ∀ md ∈ MT2, Cond.code md.2.1 md.2.2.1 md.2.2.2.1 md.2.2.2.2.1 ∈ lw_tbl := pl_ok MT2 [473, 477, 481, 488, 496, 510, 518, 593, 607, 637, 649, 670, 674, 684, 688, 692, 713, 741, 749, 753, 758, 766, 775, 786, 790, 795, 830, 834, 838, 860, 877, 886, 894, 911, 925, 935, 939, 947, 972, 986] (fun md => Cond.code md.2.1 md.2.2.1 md.2.2.2.1 md.2.2.2.2.1) rfl
theorem mi_2 : ∀ md ∈ MT2, Cond.initialized md.2.1.cls ∈ lw_tbl := pl_ok MT2 [84, 84, 84, 84, 84, 84, 84, 84, 84, 84, 84, 84, 84, 84, 84, 84, 84, 84, 84, 84, 84, 84, 84, 84, 84, 84, 84, 84, 84, 84, 84, 84, 84, 84, 84, 84, 84, 84, 84, 84] (fun md => Cond.initialized md.2.1.cls) (by decide +kernel)
theorem mb_2 : (MT2.all fun md => plainFor md.2.1 && decide (md.2.1.cls ≠ "java/lang/invoke/MethodHandle") && decide (md.2.1.cls ≠ "java/lang/invoke/VarHandle") && decide (md.1 = md.2.1.cls) && decide (md.2.2.2.1 ≤ 21) && decide (pcA md.2.2.2.2.2 0 = 0)) = true := by decide +kernel
set_option maxRecDepth 1000000 in
theorem mc_3 : ∀ md ∈ MT3, Cond.code md.2.1 md.2.2.1 md.2.2.2.1 md.2.2.2.2.1 ∈ lw_tbl := pl_ok MT3 [999, 1007, 1026, 1052, 1071, 1075, 1079, 1083, 1103, 1107, 1111, 450, 446, 499, 778, 677, 611, 641, 563, 633, 680, 1048, 700, 615, 645, 1087, 1091, 1095, 1099, 976, 1117, 1121, 1125, 1128, 1267, 1359, 1429, 1532, 1567, 1290] (fun md => Cond.code md.2.1 md.2.2.1 md.2.2.2.1 md.2.2.2.2.1) rfl
theorem mi_3 : ∀ md ∈ MT3, Cond.initialized md.2.1.cls ∈ lw_tbl := pl_ok MT3 [84, 84, 84, 84, 84, 84, 84, 84, 84, 84, 84, 84, 84, 84, 84, 84, 84, 84, 84, 84, 84, 84, 84, 84, 84, 84, 84, 84, 84, 84, 84, 84, 84, 84, 96, 96, 96, 96, 96, 96] (fun md => Cond.initialized md.2.1.cls) (by decide +kernel)
theorem mb_3 : (MT3.all fun md => plainFor md.2.1 && decide (md.2.1.cls ≠ "java/lang/invoke/MethodHandle") && decide (md.2.1.cls ≠ "java/lang/invoke/VarHandle") && decide (md.1 = md.2.1.cls) && decide (md.2.2.2.1 ≤ 21) && decide (pcA md.2.2.2.2.2 0 = 0)) = true := by decide +kernel
set_option maxRecDepth 1000000 in
theorem mc_4 : ∀ md ∈ MT4, Cond.code md.2.1 md.2.2.1 md.2.2.2.1 md.2.2.2.2.1 ∈ lw_tbl := pl_ok MT4 [1260, 1264, 1302, 1271, 1688, 1275, 1279, 1286, 1298, 1283, 1294, 1306, 1310, 1314, 1318, 1325, 1322, 1329, 1341, 1536, 1366, 1348, 1356, 1363, 1352, 1345, 1337, 1333, 1370, 1378, 1418, 1398, 1402, 1485, 1457, 1386, 1390, 1410, 1441, 1437] (fun md => Cond.code md.2.1 md.2.2.1 md.2.2.2.1 md.2.2.2.2.1) rfl
theorem mi_4 : ∀ md ∈ MT4, Cond.initialized md.2.1.cls ∈ lw_tbl := pl_ok MT4 [96, 96, 96, 96, 96, 96, 96, 96, 96, 96, 96, 96, 96, 96, 96, 96, 96, 96, 96, 96, 96, 96, 96, 96, 96, 96, 96, 96, 96, 96, 96, 96, 96, 96, 96, 96, 96, 96, 96, 96] (fun md => Cond.initialized md.2.1.cls) (by decide +kernel)
theorem mb_4 : (MT4.all fun md => plainFor md.2.1 && decide (md.2.1.cls ≠ "java/lang/invoke/MethodHandle") && decide (md.2.1.cls ≠ "java/lang/invoke/VarHandle") && decide (md.1 = md.2.1.cls) && decide (md.2.2.2.1 ≤ 21) && decide (pcA md.2.2.2.2.2 0 = 0)) = true := by decide +kernel
set_option maxRecDepth 1000000 in
theorem mc_5 : ∀ md ∈ MT5, Cond.code md.2.1 md.2.2.1 md.2.2.2.1 md.2.2.2.2.1 ∈ lw_tbl := pl_ok MT5 [1433, 1406, 1394, 1449, 1382, 1374, 1422, 1414, 1445, 1453, 1426, 1461, 1465, 1469, 1473, 1501, 1481, 1497, 1525, 1477, 1493, 1489, 1509, 1505, 1513, 1517, 1521, 1529, 1540, 1544, 1548, 1560, 1556, 1564, 1552, 1575, 1571, 1583, 1579, 1595] (fun md => Cond.code md.2.1 md.2.2.1 md.2.2.2.1 md.2.2.2.2.1) rfl
theorem mi_5 : ∀ md ∈ MT5, Cond.initialized md.2.1.cls ∈ lw_tbl := pl_ok MT5 [96, 96, 96, 96, 96, 96, 96, 96, 96, 96, 96, 96, 96, 96, 96, 96, 96, 96, 96, 96, 96, 96, 96, 96, 96, 96, 96, 96, 96, 96, 96, 96, 96, 96, 96, 96, 96, 96, 96, 96] (fun md => Cond.initialized md.2.1.cls) (by decide +kernel)
theorem mb_5 : (MT5.all fun md => plainFor md.2.1 && decide (md.2.1.cls ≠ "java/lang/invoke/MethodHandle") && decide (md.2.1.cls ≠ "java/lang/invoke/VarHandle") && decide (md.1 = md.2.1.cls) && decide (md.2.2.2.1 ≤ 21) && decide (pcA md.2.2.2.2.2 0 = 0)) = true := by decide +kernel
set_option maxRecDepth 1000000 in
theorem mc_6 : ∀ md ∈ MT6, Cond.code md.2.1 md.2.2.1 md.2.2.2.1 md.2.2.2.2.1 ∈ lw_tbl := pl_ok MT6 [1591, 1587, 1603, 1607, 1611, 1599, 1615, 1619, 1623, 1631, 1627, 1635, 1639, 1643, 1651, 1647, 1659, 1655, 1663, 1667, 1675, 1671, 1684, 1679, 1698, 1692, 1707, 1703, 1716, 1721, 1711, 570, 819, 822, 457, 506] (fun md => Cond.code md.2.1 md.2.2.1 md.2.2.2.1 md.2.2.2.2.1) rfl
theorem mi_6 : ∀ md ∈ MT6, Cond.initialized md.2.1.cls ∈ lw_tbl := pl_ok MT6 [96, 96, 96, 96, 96, 96, 96, 96, 96, 96, 96, 96, 96, 96, 96, 96, 96, 96, 96, 96, 96, 96, 96, 96, 96, 96, 96, 96, 96, 96, 96, 99, 100, 100, 97, 97] (fun md => Cond.initialized md.2.1.cls) (by decide +kernel)
theorem mb_6 : (MT6.all fun md => plainFor md.2.1 && decide (md.2.1.cls ≠ "java/lang/invoke/MethodHandle") && decide (md.2.1.cls ≠ "java/lang/invoke/VarHandle") && decide (md.1 = md.2.1.cls) && decide (md.2.2.2.1 ≤ 21) && decide (pcA md.2.2.2.2.2 0 = 0)) = true := by decide +kernel
theorem md_mk {l : List MD} (h1 : ∀ md ∈ l, Cond.code md.2.1 md.2.2.1 md.2.2.2.1 md.2.2.2.2.1 ∈ lw_tbl) (h2 : ∀ md ∈ l, Cond.initialized md.2.1.cls ∈ lw_tbl) (h3 : (l.all fun md => plainFor md.2.1 && decide (md.2.1.cls ≠ "java/lang/invoke/MethodHandle") && decide (md.2.1.cls ≠ "java/lang/invoke/VarHandle") && decide (md.1 = md.2.1.cls) && decide (md.2.2.2.1 ≤ 21) && decide (pcA md.2.2.2.2.2 0 = 0)) = true) : ∀ md ∈ l, mdB md ∧ pcA md.2.2.2.2.2 0 = 0 := by
  intro md hm
  have h := List.all_eq_true.mp h3 md hm
  simp only [Bool.and_eq_true, decide_eq_true_eq] at h
  obtain ⟨⟨⟨⟨⟨a, b⟩, c⟩, d⟩, e⟩, f⟩ := h
  exact ⟨⟨lw_gi (h1 md hm) rfl, lw_gi (h2 md hm) rfl, a, ⟨b, c⟩, d, e⟩, f⟩
theorem md_ok : ∀ md ∈ MT, mdB md ∧ pcA md.2.2.2.2.2 0 = 0 := List.forall_mem_append.mpr ⟨md_mk mc_0 mi_0 mb_0, List.forall_mem_append.mpr ⟨md_mk mc_1 mi_1 mb_1, List.forall_mem_append.mpr ⟨md_mk mc_2 mi_2 mb_2, List.forall_mem_append.mpr ⟨md_mk mc_3 mi_3 mb_3, List.forall_mem_append.mpr ⟨md_mk mc_4 mi_4 mb_4, List.forall_mem_append.mpr ⟨md_mk mc_5 mi_5 mb_5, md_mk mc_6 mi_6 mb_6⟩⟩⟩⟩⟩⟩
def MLx : List (Nat × Nat × Nat) := [(8, 562, 0), (658, 659, 660), (657, 558, 559), (629, 554, 555), (709, 654, 655), (726, 727, 728), (625, 626, 627), (666, 622, 623), (916, 848, 849), (917, 918, 919), (921, 569, 0), (865, 654, 655), (10, 562, 0), (867, 869, 14), (871, 558, 559), (872, 554, 555), (873, 659, 660), (882, 862, 863), (1012, 1014, 19), (1019, 1021, 20), (1016, 456, 0), (1017, 659, 660), (12, 562, 0), (1031, 654, 655), (13, 632, 0), (1034, 0, 0), (1035, 1037, 21), (1039, 918, 919), (1040, 569, 0), (1041, 1043, 22), (1058, 719, 720), (1059, 702, 703), (1060, 727, 728), (1063, 1064, 0), (1067, 735, 736), (899, 554, 555), (900, 848, 849), (901, 622, 623), (902, 569, 0), (903, 626, 627), (11, 562, 0), (905, 906, 0), (952, 456, 0), (953, 955, 15), (961, 963, 17), (957, 959, 16), (523, 524, 525), (528, 530, 1), (536, 538, 2), (532, 533, 534), (540, 542, 3), (583, 584, 0), (586, 587, 588), (544, 545, 546), (549, 550, 551), (574, 576, 4), (579, 580, 581), (7, 562, 0), (455, 456, 0), (771, 452, 453), (527, 456, 0), (598, 0, 0), (553, 554, 555), (6, 562, 0), (564, 565, 566), (568, 569, 0), (557, 558, 559), (603, 0, 0), (981, 723, 724), (982, 760, 761), (504, 505, 0), (548, 533, 534), (800, 622, 623), (801, 554, 555), (9, 562, 0), (804, 806, 10), (808, 810, 11), (813, 815, 12), (820, 821, 0), (812, 659, 660), (817, 818, 0), (843, 844, 845), (847, 848, 849), (851, 853, 13), (855, 569, 0), (856, 0, 0), (444, 445, 0), (447, 449, 0), (451, 452, 453), (462, 463, 464), (466, 467, 468), (482, 0, 0), (489, 490, 491), (497, 498, 0), (500, 501, 502), (511, 512, 513), (519, 520, 521), (594, 595, 596), (599, 600, 601), (608, 610, 5), (612, 614, 6), (638, 640, 7), (642, 644, 8), (650, 554, 555), (651, 562, 0), (617, 618, 619), (652, 569, 0), (653, 654, 655), (662, 663, 664), (631, 632, 0), (675, 676, 0), (678, 679, 0), (693, 694, 695), (697, 699, 9), (714, 715, 716), (701, 702, 703), (718, 719, 720), (722, 723, 724), (730, 731, 732), (734, 735, 736), (742, 743, 744), (754, 727, 728), (759, 760, 761), (767, 768, 769), (776, 777, 0), (779, 780, 781), (621, 622, 623), (791, 558, 559), (796, 797, 798), (823, 824, 825), (839, 840, 841), (861, 862, 863), (878, 879, 880), (887, 888, 889), (895, 896, 897), (912, 913, 914), (926, 927, 928), (931, 918, 919), (940, 941, 942), (948, 949, 950), (965, 966, 967), (973, 975, 18), (977, 978, 979), (987, 988, 989), (991, 626, 627), (992, 993, 994), (1000, 1001, 1002), (1008, 1009, 1010), (1027, 1028, 1029), (1046, 1047, 0), (1054, 1055, 1056), (1084, 1086, 23), (1114, 1116, 27), (1118, 1120, 28), (1123, 1124, 0), (1126, 1127, 0), (705, 706, 707), (616, 565, 566), (1088, 1090, 24), (1092, 1094, 25), (1096, 1098, 26), (1265, 1266, 0), (1284, 1285, 0), (1287, 1289, 29), (1295, 1297, 30), (1299, 1301, 31), (1323, 1324, 0), (1338, 1340, 33), (1364, 1365, 0), (1346, 1347, 0), (1349, 1351, 35), (1353, 1355, 36), (1357, 1358, 0), (1342, 1344, 34), (1360, 1362, 37), (1334, 1336, 32), (1407, 1409, 46), (1438, 1440, 51), (1434, 1436, 50), (1395, 1397, 43), (1399, 1401, 44), (1403, 1405, 45), (1383, 1385, 40), (1387, 1389, 41), (1391, 1393, 42), (1375, 1377, 38), (1379, 1381, 39), (1415, 1417, 47), (1419, 1421, 48), (1446, 1448, 53), (1454, 1456, 55), (1427, 1428, 0), (1430, 1432, 49), (1442, 1444, 52), (1450, 1452, 54), (1482, 1484, 57), (1478, 1480, 56), (1498, 1500, 60), (1494, 1496, 59), (1490, 1492, 58), (1506, 1508, 61), (1522, 1524, 62), (1530, 1531, 0), (1533, 1535, 63), (1557, 1559, 65), (1561, 1563, 66), (1565, 1566, 0), (1553, 1555, 64), (1572, 1574, 67), (1580, 1582, 68), (1592, 1594, 70), (1588, 1590, 69), (1604, 1606, 72), (1608, 1610, 73), (1600, 1602, 71), (1628, 1630, 74), (1648, 1650, 75), (1656, 1658, 76), (1672, 1674, 77), (1681, 1683, 78), (1685, 1687, 79), (1696, 1697, 0), (1704, 1706, 80), (1713, 1715, 81), (1718, 1720, 82)]
def mlB (t : String × Nat × Nat × Nat) (x : Nat × Nat × Nat) : Bool := match t.2.2.1 with
  | 9 => decide (lw_tbl[x.1]? = some (Cond.methodLink t.1 t.2.1 arraycopyName))
  | 0 => match MT[t.2.2.2]? with
    | some md => decide (lw_tbl[x.1]? = some (Cond.methodLink t.1 t.2.1 md.2.1)) && decide (lw_tbl[x.2.1]? = some (Cond.instanceMethod md.2.1)) && decide (lw_tbl[x.2.2]? = some (Cond.selects md.2.1.cls md.2.1 md.2.1))
    | none => false
  | 1 => match MT[t.2.2.2]? with
    | some md => decide (lw_tbl[x.1]? = some (Cond.methodLink t.1 t.2.1 md.2.1)) && decide (lw_tbl[x.2.1]? = some (Cond.static md.2.1))
    | none => false
  | _ => match MT[t.2.2.2]? with
    | some md => decide ((NW[x.1]?).map (fun z => (z.1, z.2.1, z.2.2.1)) = some (t.1, t.2.1, md.2.1)) && decide (lw_tbl[x.2.1]? = some (Cond.static md.2.1))
    | none => false
theorem ml_all : ((MLs.zip MLx).all fun z => mlB z.1 z.2) = true := by decide +kernel
theorem ml_ok : ∀ t ∈ MLs, MLok MT t := by
  have hl : MLs.length = MLx.length := by decide +kernel
  intro t ht
  obtain ⟨i, hi⟩ := List.getElem?_of_mem ht
  have hli := (List.getElem?_eq_some_iff.mp hi).1
  have hz : (MLs.zip MLx)[i]? = some (t, MLx[i]'(by omega)) := by
    rw [List.getElem?_zip_eq_some]
    exact ⟨hi, List.getElem?_eq_getElem (by omega)⟩
  have h1 := List.all_eq_true.mp ml_all _ (List.mem_of_getElem? hz)
  generalize MLx[i]'(by omega) = x at h1
  obtain ⟨own, idx, kind, cal⟩ := t
  unfold mlB at h1
  unfold MLok
  simp only at h1 ⊢
  split at h1
  · simp only [decide_eq_true_eq] at h1
    exact lw_gi (List.mem_of_getElem? h1) rfl
  · split at h1
    · rename_i md hmd
      simp only [Bool.and_eq_true, decide_eq_true_eq] at h1
      exact ⟨md, hmd, (md_ok md (List.mem_of_getElem? hmd)).1, lw_gi (List.mem_of_getElem? h1.1.1) rfl, lw_gi (List.mem_of_getElem? h1.1.2) rfl, lw_gi (List.mem_of_getElem? h1.2) rfl⟩
    · cases h1
  · split at h1
    · rename_i md hmd
      simp only [Bool.and_eq_true, decide_eq_true_eq] at h1
      exact ⟨md, hmd, (md_ok md (List.mem_of_getElem? hmd)).1, lw_gi (List.mem_of_getElem? h1.1) rfl, lw_gi (List.mem_of_getElem? h1.2) rfl⟩
    · cases h1
  · rename_i n9 n0 n1
    split at h1
    · rename_i md hmd
      simp only [Bool.and_eq_true, decide_eq_true_eq] at h1
      split
      · exact absurd rfl n9
      · exact absurd rfl n0
      · exact absurd rfl n1
      refine ⟨md, hmd, (md_ok md (List.mem_of_getElem? hmd)).1, ?_, lw_gi (List.mem_of_getElem? h1.2) rfl⟩
      cases hN : NW[x.1]? with
      | none => rw [hN] at h1; cases h1.1
      | some z =>
        rw [hN] at h1
        have e := Option.some.inj h1.1
        simp only [Prod.mk.injEq] at e
        obtain ⟨z1, z2, z3, z4⟩ := z
        simp only at e
        obtain ⟨rfl, rfl, rfl⟩ := e
        exact ⟨z4, List.mem_of_getElem? hN⟩
    · cases h1
