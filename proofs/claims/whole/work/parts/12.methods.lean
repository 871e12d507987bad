def m_Jm_max : MS := (⟨"java/lang/Math", "max", "(II)I"⟩, prog_11_method_65_code, 2, (some .int), { frames := 0, cells := 0, slots := 0, locals := 0 }, 2, 99)
def m_Cs_noRow : MS := (⟨"ColdShares", "noRow", "(I)Z"⟩, prog_1_method_43_code, 2, (some .boolean), { frames := 0, cells := 0, slots := 0, locals := 0 }, 1, 6)
def m_Cs_answer : MS := (⟨"ColdShares", "answer", "(I)I"⟩, prog_1_method_49_code, 2, (some .int), { frames := 0, cells := 0, slots := 0, locals := 0 }, 1, 6)
def m_Ja_rangeCheck : MS := (⟨"java/util/Arrays", "rangeCheck", "(III)V"⟩, prog_13_method_30_code, 3, none, { frames := 0, cells := 0, slots := 0, locals := 0 }, 3, 99)
def m_Ja_fill4 : MS := (⟨"java/util/Arrays", "fill", "([IIII)V"⟩, prog_13_method_104_code, 5, none, { frames := 1, cells := 0, slots := 0, locals := 22 }, 4, 99)
def m_Ro_begin : MS := (⟨"ColdShares$Row", "begin", "(II)V"⟩, prog_5_method_2_code, 3, none, { frames := 2, cells := 0, slots := 0, locals := 46 }, 2, 3)
def m_Cs_row : MS := (⟨"ColdShares", "row", "(II)I"⟩, prog_1_method_2_code, 3, (some .int), { frames := 3, cells := 0, slots := 0, locals := 68 }, 2, 6)
def m_Ro_isMissing : MS := (⟨"ColdShares$Row", "isMissing", "()Z"⟩, prog_5_method_3_code, 1, (some .boolean), { frames := 0, cells := 0, slots := 0, locals := 0 }, 0, 3)
def m_Ro_has : MS := (⟨"ColdShares$Row", "has", "(II)Z"⟩, prog_5_method_4_code, 3, (some .boolean), { frames := 0, cells := 0, slots := 0, locals := 0 }, 2, 3)
def m_Cs_at : MS := (⟨"ColdShares", "at", "(II)I"⟩, prog_1_method_4_code, 3, (some .int), { frames := 1, cells := 0, slots := 0, locals := 22 }, 2, 6)
def m_Cs_lay : MS := (⟨"ColdShares", "lay", "(III)I"⟩, prog_1_method_3_code, 5, (some .int), { frames := 2, cells := 0, slots := 0, locals := 44 }, 3, 6)
def m_Cs_tear : MS := (⟨"ColdShares", "tear", "(I)I"⟩, prog_1_method_5_code, 2, (some .int), { frames := 1, cells := 0, slots := 0, locals := 21 }, 1, 6)
def m_Cs_copy : MS := (⟨"ColdShares", "copy", "(IIIII)I"⟩, prog_1_method_6_code, 6, (some .int), { frames := 1, cells := 0, slots := 0, locals := 26 }, 5, 6)
def m_Cs_mean : MS := (⟨"ColdShares", "mean", "(I)I"⟩, prog_1_method_7_code, 6, (some .int), { frames := 1, cells := 0, slots := 0, locals := 21 }, 1, 6)
def m_Cs_noText : MS := (⟨"ColdShares", "noText", "(I)Z"⟩, prog_1_method_44_code, 2, (some .boolean), { frames := 0, cells := 0, slots := 0, locals := 0 }, 1, 6)
def m_Cs_text : MS := (⟨"ColdShares", "text", "(II)I"⟩, prog_1_method_8_code, 3, (some .int), { frames := 3, cells := 0, slots := 0, locals := 68 }, 2, 6)
def m_Cs_put : MS := (⟨"ColdShares", "put", "(III)I"⟩, prog_1_method_9_code, 5, (some .int), { frames := 1, cells := 0, slots := 0, locals := 22 }, 3, 6)
def m_St_clear : MS := (⟨"ColdShares$Street", "clear", "()V"⟩, prog_6_method_2_code, 1, none, { frames := 0, cells := 0, slots := 0, locals := 0 }, 0, 4)
def m_Re_sign : MS := (⟨"ColdShares$Reader", "sign", "()I"⟩, prog_4_method_5_code, 1, (some .int), { frames := 1, cells := 0, slots := 0, locals := 22 }, 0, 2)
def m_Re_skipBlanks : MS := (⟨"ColdShares$Reader", "skipBlanks", "()V"⟩, prog_4_method_9_code, 2, none, { frames := 2, cells := 0, slots := 0, locals := 42 }, 0, 2)
def m_Re_isFigure : MS := (⟨"ColdShares$Reader", "isFigure", "()Z"⟩, prog_4_method_6_code, 1, (some .boolean), { frames := 2, cells := 0, slots := 0, locals := 42 }, 0, 2)
def m_Re_takeFigure : MS := (⟨"ColdShares$Reader", "takeFigure", "()I"⟩, prog_4_method_7_code, 2, (some .int), { frames := 2, cells := 0, slots := 0, locals := 42 }, 0, 2)
def m_Re_readNights : MS := (⟨"ColdShares$Reader", "readNights", "()Z"⟩, prog_4_method_3_code, 2, (some .boolean), { frames := 3, cells := 0, slots := 0, locals := 63 }, 0, 2)
def m_Re_kindOfSign : MS := (⟨"ColdShares$Reader", "kindOfSign", "()I"⟩, prog_4_method_8_code, 2, (some .int), { frames := 2, cells := 0, slots := 0, locals := 42 }, 0, 2)
def m_Ho_restart : MS := (⟨"ColdShares$House", "restart", "()V"⟩, prog_2_method_3_code, 1, none, { frames := 0, cells := 0, slots := 0, locals := 0 }, 0, 0)
def m_Ho_become : MS := (⟨"ColdShares$House", "become", "(III)V"⟩, prog_2_method_2_code, 4, none, { frames := 1, cells := 0, slots := 0, locals := 20 }, 3, 0)
def m_Re_readHouse : MS := (⟨"ColdShares$Reader", "readHouse", "()Z"⟩, prog_4_method_4_code, 3, (some .boolean), { frames := 3, cells := 0, slots := 0, locals := 63 }, 0, 2)
def m_St_isEmpty : MS := (⟨"ColdShares$Street", "isEmpty", "()Z"⟩, prog_6_method_4_code, 1, (some .boolean), { frames := 0, cells := 0, slots := 0, locals := 0 }, 0, 4)
def m_Re_read : MS := (⟨"ColdShares$Reader", "read", "(LColdShares$Row;)I"⟩, prog_4_method_2_code, 3, (some .int), { frames := 4, cells := 0, slots := 0, locals := 85 }, 1, 2)
def m_Cs_fault : MS := (⟨"ColdShares", "fault", "(I)I"⟩, prog_1_method_10_code, 2, (some .int), { frames := 5, cells := 0, slots := 0, locals := 107 }, 1, 6)
def m_St_passNight : MS := (⟨"ColdShares$Street", "passNight", "()V"⟩, prog_6_method_9_code, 2, none, { frames := 0, cells := 0, slots := 0, locals := 0 }, 0, 4)
def m_Ho_squareAbove : MS := (⟨"ColdShares$House", "squareAbove", "(II)I"⟩, prog_2_method_12_code, 3, (some .int), { frames := 1, cells := 0, slots := 0, locals := 21 }, 2, 0)
def m_Ho_painOf : MS := (⟨"ColdShares$House", "painOf", "(I)I"⟩, prog_2_method_6_code, 2, (some .int), { frames := 2, cells := 0, slots := 0, locals := 43 }, 1, 0)
def m_Ho_bearTonight : MS := (⟨"ColdShares$House", "bearTonight", "(I)V"⟩, prog_2_method_8_code, 2, none, { frames := 3, cells := 0, slots := 0, locals := 64 }, 1, 0)
def m_St_perform : MS := (⟨"ColdShares$Street", "perform", "(I)V"⟩, prog_6_method_8_code, 2, none, { frames := 4, cells := 0, slots := 0, locals := 85 }, 1, 4)
def m_St_replay : MS := (⟨"ColdShares$Street", "replay", "(I)V"⟩, prog_6_method_6_code, 3, none, { frames := 5, cells := 0, slots := 0, locals := 106 }, 1, 4)
def m_St_take : MS := (⟨"ColdShares$Street", "take", "(LColdShares$Street;)V"⟩, prog_6_method_3_code, 3, none, { frames := 6, cells := 0, slots := 0, locals := 128 }, 1, 4)
def m_Cs_street : MS := (⟨"ColdShares", "street", "(I)I"⟩, prog_1_method_11_code, 3, (some .int), { frames := 7, cells := 0, slots := 0, locals := 150 }, 1, 6)
def m_Cs_noHouse : MS := (⟨"ColdShares", "noHouse", "(I)Z"⟩, prog_1_method_45_code, 2, (some .boolean), { frames := 0, cells := 0, slots := 0, locals := 0 }, 1, 6)
def m_St_isCandlemas : MS := (⟨"ColdShares$Street", "isCandlemas", "()Z"⟩, prog_6_method_5_code, 1, (some .boolean), { frames := 0, cells := 0, slots := 0, locals := 0 }, 0, 4)
def m_Ho_isOf : MS := (⟨"ColdShares$House", "isOf", "(I)Z"⟩, prog_2_method_4_code, 2, (some .boolean), { frames := 0, cells := 0, slots := 0, locals := 0 }, 1, 0)
def m_Jm_min : MS := (⟨"java/lang/Math", "min", "(II)I"⟩, prog_11_method_69_code, 2, (some .int), { frames := 0, cells := 0, slots := 0, locals := 0 }, 2, 99)
def m_Ho_canAt : MS := (⟨"ColdShares$House", "canAt", "(I)I"⟩, prog_2_method_5_code, 2, (some .int), { frames := 1, cells := 0, slots := 0, locals := 21 }, 1, 0)
def m_St_topIn : MS := (⟨"ColdShares$Street", "topIn", "(II)I"⟩, prog_6_method_10_code, 3, (some .int), { frames := 2, cells := 0, slots := 0, locals := 42 }, 2, 4)
def m_St_canTonight : MS := (⟨"ColdShares$Street", "canTonight", "(I)I"⟩, prog_6_method_11_code, 2, (some .int), { frames := 3, cells := 0, slots := 0, locals := 64 }, 1, 4)
def m_Cs_sideOf : MS := (⟨"ColdShares", "sideOf", "(II)I"⟩, prog_1_method_51_code, 4, (some .int), { frames := 4, cells := 0, slots := 0, locals := 85 }, 2, 6)
def m_Cs_house : MS := (⟨"ColdShares", "house", "(II)I"⟩, prog_1_method_12_code, 3, (some .int), { frames := 5, cells := 0, slots := 0, locals := 108 }, 2, 6)
def m_Cs_noNight : MS := (⟨"ColdShares", "noNight", "(I)Z"⟩, prog_1_method_46_code, 2, (some .boolean), { frames := 0, cells := 0, slots := 0, locals := 0 }, 1, 6)
def m_Cs_cold : MS := (⟨"ColdShares", "cold", "(I)I"⟩, prog_1_method_13_code, 2, (some .int), { frames := 1, cells := 0, slots := 0, locals := 21 }, 1, 6)
def m_Ho_mostWithoutPain : MS := (⟨"ColdShares$House", "mostWithoutPain", "()I"⟩, prog_2_method_10_code, 3, (some .int), { frames := 3, cells := 0, slots := 0, locals := 64 }, 0, 0)
def m_Ho_plainPainOf : MS := (⟨"ColdShares$House", "plainPainOf", "(I)I"⟩, prog_2_method_7_code, 2, (some .int), { frames := 2, cells := 0, slots := 0, locals := 43 }, 1, 0)
def m_Ho_leastWithPain : MS := (⟨"ColdShares$House", "leastWithPain", "()I"⟩, prog_2_method_11_code, 2, (some .int), { frames := 3, cells := 0, slots := 0, locals := 64 }, 0, 0)
def m_Ho_tellsAs : MS := (⟨"ColdShares$House", "tellsAs", "(I)I"⟩, prog_2_method_9_code, 2, (some .int), { frames := 4, cells := 0, slots := 0, locals := 86 }, 1, 0)
def m_Cs_mark : MS := (⟨"ColdShares", "mark", "(II)I"⟩, prog_1_method_14_code, 3, (some .int), { frames := 5, cells := 0, slots := 0, locals := 107 }, 2, 6)
def m_Cs_wind : MS := (⟨"ColdShares", "wind", "(II)I"⟩, prog_1_method_15_code, 4, (some .int), { frames := 1, cells := 0, slots := 0, locals := 21 }, 2, 6)
def m_St_act : MS := (⟨"ColdShares$Street", "act", "(III)V"⟩, prog_6_method_7_code, 4, none, { frames := 5, cells := 0, slots := 0, locals := 106 }, 3, 4)
def m_Cs_bear : MS := (⟨"ColdShares", "bear", "(II)I"⟩, prog_1_method_16_code, 3, (some .int), { frames := 6, cells := 0, slots := 0, locals := 129 }, 2, 6)
def m_Cs_sell : MS := (⟨"ColdShares", "sell", "(III)I"⟩, prog_1_method_17_code, 4, (some .int), { frames := 6, cells := 0, slots := 0, locals := 129 }, 3, 6)
def m_Cs_night : MS := (⟨"ColdShares", "night", "()I"⟩, prog_1_method_18_code, 1, (some .int), { frames := 6, cells := 0, slots := 0, locals := 129 }, 0, 6)
def m_Cs_undo : MS := (⟨"ColdShares", "undo", "(I)I"⟩, prog_1_method_19_code, 3, (some .int), { frames := 6, cells := 0, slots := 0, locals := 128 }, 1, 6)
def m_Cs_noKept : MS := (⟨"ColdShares", "noKept", "(I)Z"⟩, prog_1_method_47_code, 2, (some .boolean), { frames := 0, cells := 0, slots := 0, locals := 0 }, 1, 6)
def m_Cs_keep : MS := (⟨"ColdShares", "keep", "(I)I"⟩, prog_1_method_20_code, 2, (some .int), { frames := 7, cells := 0, slots := 0, locals := 150 }, 1, 6)
def m_Cs_on : MS := (⟨"ColdShares", "on", "(I)I"⟩, prog_1_method_21_code, 2, (some .int), { frames := 7, cells := 0, slots := 0, locals := 150 }, 1, 6)
def m_Cs_hurt : MS := (⟨"ColdShares", "hurt", "(II)I"⟩, prog_1_method_22_code, 3, (some .int), { frames := 3, cells := 0, slots := 0, locals := 64 }, 2, 6)
def m_Cs_most : MS := (⟨"ColdShares", "most", "(I)I"⟩, prog_1_method_23_code, 4, (some .int), { frames := 3, cells := 0, slots := 0, locals := 64 }, 1, 6)
def m_Ja_fill2 : MS := (⟨"java/util/Arrays", "fill", "([II)V"⟩, prog_13_method_103_code, 4, none, { frames := 0, cells := 0, slots := 0, locals := 0 }, 2, 99)
def m_Pl_bearNothing : MS := (⟨"ColdShares$Plans", "bearNothing", "([I)V"⟩, prog_3_method_4_code, 1, none, { frames := 1, cells := 0, slots := 0, locals := 23 }, 1, 1)
def m_Pl_relieve : MS := (⟨"ColdShares$Plans", "relieve", "([I[III)V"⟩, prog_3_method_5_code, 5, none, { frames := 1, cells := 0, slots := 0, locals := 21 }, 4, 1)
def m_Pl_weigh : MS := (⟨"ColdShares$Plans", "weigh", "(LColdShares$Street;I)V"⟩, prog_3_method_3_code, 6, none, { frames := 3, cells := 0, slots := 0, locals := 64 }, 2, 1)
def m_Pl_painFor : MS := (⟨"ColdShares$Plans", "painFor", "(II)I"⟩, prog_3_method_6_code, 3, (some .int), { frames := 0, cells := 0, slots := 0, locals := 0 }, 2, 1)
def m_Pl_firstTonight : MS := (⟨"ColdShares$Plans", "firstTonight", "(LColdShares$House;III)I"⟩, prog_3_method_8_code, 6, (some .int), { frames := 3, cells := 0, slots := 0, locals := 64 }, 4, 1)
def m_Pl_writePlan : MS := (⟨"ColdShares$Plans", "writePlan", "(LColdShares$Street;II[I)V"⟩, prog_3_method_7_code, 8, none, { frames := 4, cells := 0, slots := 0, locals := 89 }, 4, 1)
def m_Cs_least : MS := (⟨"ColdShares", "least", "(II)I"⟩, prog_1_method_24_code, 5, (some .int), { frames := 5, cells := 0, slots := 0, locals := 116 }, 2, 6)
def m_Cs_price : MS := (⟨"ColdShares", "price", "(I)I"⟩, prog_1_method_25_code, 4, (some .int), { frames := 4, cells := 0, slots := 0, locals := 89 }, 1, 6)
def m_Pl_weighAll : MS := (⟨"ColdShares$Plans", "weighAll", "(LColdShares$Street;)V"⟩, prog_3_method_2_code, 3, none, { frames := 4, cells := 0, slots := 0, locals := 89 }, 1, 1)
def m_Cs_late : MS := (⟨"ColdShares", "late", "()I"⟩, prog_1_method_26_code, 5, (some .int), { frames := 5, cells := 0, slots := 0, locals := 111 }, 0, 6)
def m_Cs_gainOf : MS := (⟨"ColdShares", "gainOf", "(II)I"⟩, prog_1_method_52_code, 5, (some .int), { frames := 1, cells := 0, slots := 0, locals := 22 }, 2, 6)
def m_Cs_gain : MS := (⟨"ColdShares", "gain", "(II)I"⟩, prog_1_method_27_code, 3, (some .int), { frames := 4, cells := 0, slots := 0, locals := 89 }, 2, 6)
def m_Cs_sales : MS := (⟨"ColdShares", "sales", "()I"⟩, prog_1_method_28_code, 7, (some .int), { frames := 5, cells := 0, slots := 0, locals := 111 }, 0, 6)
def m_Cs_isIn : MS := (⟨"ColdShares", "isIn", "(II)Z"⟩, prog_1_method_48_code, 2, (some .boolean), { frames := 0, cells := 0, slots := 0, locals := 0 }, 2, 6)
def m_St_owedBy : MS := (⟨"ColdShares$Street", "owedBy", "(I)I"⟩, prog_6_method_12_code, 4, (some .int), { frames := 1, cells := 0, slots := 0, locals := 21 }, 1, 4)
def m_Pl_join : MS := (⟨"ColdShares$Plans", "join", "(II)V"⟩, prog_3_method_12_code, 5, none, { frames := 2, cells := 0, slots := 0, locals := 45 }, 2, 1)
def m_Pl_pooledPain : MS := (⟨"ColdShares$Plans", "pooledPain", "(II)I"⟩, prog_3_method_13_code, 3, (some .int), { frames := 0, cells := 0, slots := 0, locals := 0 }, 2, 1)
def m_Pl_painOfPool : MS := (⟨"ColdShares$Plans", "painOfPool", "(LColdShares$Street;II)I"⟩, prog_3_method_10_code, 6, (some .int), { frames := 3, cells := 0, slots := 0, locals := 69 }, 3, 1)
def m_Pl_firstShare : MS := (⟨"ColdShares$Plans", "firstShare", "(III)I"⟩, prog_3_method_15_code, 5, (some .int), { frames := 0, cells := 0, slots := 0, locals := 0 }, 3, 1)
def m_Pl_writeShares : MS := (⟨"ColdShares$Plans", "writeShares", "(II[I)V"⟩, prog_3_method_14_code, 7, none, { frames := 1, cells := 0, slots := 0, locals := 24 }, 3, 1)
def m_Cs_share : MS := (⟨"ColdShares", "share", "(I)I"⟩, prog_1_method_29_code, 5, (some .int), { frames := 5, cells := 0, slots := 0, locals := 111 }, 1, 6)
def m_Pl_painAlone : MS := (⟨"ColdShares$Plans", "painAlone", "(LColdShares$Street;I)I"⟩, prog_3_method_9_code, 5, (some .int), { frames := 1, cells := 0, slots := 0, locals := 22 }, 2, 1)
def m_Cs_saves : MS := (⟨"ColdShares", "saves", "(I)I"⟩, prog_1_method_30_code, 3, (some .int), { frames := 5, cells := 0, slots := 0, locals := 111 }, 1, 6)
def m_Pl_poolAllSets : MS := (⟨"ColdShares$Plans", "poolAllSets", "(I)V"⟩, prog_3_method_11_code, 5, none, { frames := 3, cells := 0, slots := 0, locals := 69 }, 1, 1)
def m_Ji_bitCount : MS := (⟨"java/lang/Integer", "bitCount", "(I)I"⟩, prog_10_method_49_code, 1, (some .int), { frames := 0, cells := 0, slots := 0, locals := 0 }, 1, 99)
def m_Cs_savedBy : MS := (⟨"ColdShares", "savedBy", "(I)I"⟩, prog_1_method_53_code, 2, (some .int), { frames := 2, cells := 0, slots := 0, locals := 46 }, 1, 6)
def m_Cs_tell : MS := (⟨"ColdShares", "tell", "(JJ)I"⟩, prog_1_method_50_code, 12, (some .int), { frames := 0, cells := 0, slots := 0, locals := 0 }, 2, 6)
def m_Cs_part : MS := (⟨"ColdShares", "part", "(I)I"⟩, prog_1_method_31_code, 7, (some .int), { frames := 5, cells := 0, slots := 0, locals := 111 }, 1, 6)
def m_Ja_fillL : MS := (⟨"java/util/Arrays", "fill", "([JJ)V"⟩, prog_13_method_101_code, 5, none, { frames := 0, cells := 0, slots := 0, locals := 0 }, 2, 99)
def m_Wa_begin : MS := (⟨"ColdShares$Ways", "begin", "()V"⟩, prog_7_method_2_code, 1, none, { frames := 1, cells := 0, slots := 0, locals := 24 }, 0, 5)
def m_Wa_spread : MS := (⟨"ColdShares$Ways", "spread", "(LColdShares$House;I)V"⟩, prog_7_method_3_code, 6, none, { frames := 2, cells := 0, slots := 0, locals := 42 }, 2, 5)
def m_Cs_sureAt : MS := (⟨"ColdShares", "sureAt", "(III)I"⟩, prog_1_method_54_code, 6, (some .int), { frames := 2, cells := 0, slots := 0, locals := 42 }, 3, 6)
def m_Cs_ice : MS := (⟨"ColdShares", "ice", "(II)I"⟩, prog_1_method_32_code, 6, (some .int), { frames := 3, cells := 0, slots := 0, locals := 67 }, 2, 6)
def m_Wa_from : MS := (⟨"ColdShares$Ways", "from", "(I)J"⟩, prog_7_method_4_code, 5, (some .long), { frames := 1, cells := 0, slots := 0, locals := 21 }, 1, 5)
def m_Cs_odds : MS := (⟨"ColdShares", "odds", "(I)I"⟩, prog_1_method_33_code, 5, (some .int), { frames := 3, cells := 0, slots := 0, locals := 67 }, 1, 6)
def m_Cs_risk : MS := (⟨"ColdShares", "risk", "(I)I"⟩, prog_1_method_34_code, 5, (some .int), { frames := 3, cells := 0, slots := 0, locals := 64 }, 1, 6)
def m_Cs_bearByLot : MS := (⟨"ColdShares", "bearByLot", "(IJ)I"⟩, prog_1_method_55_code, 5, (some .int), { frames := 6, cells := 0, slots := 0, locals := 129 }, 2, 6)
def m_Cs_lots : MS := (⟨"ColdShares", "lots", "(II)I"⟩, prog_1_method_35_code, 8, (some .int), { frames := 7, cells := 0, slots := 0, locals := 153 }, 2, 6)
def m_Cs_asked : MS := (⟨"ColdShares", "asked", "()I"⟩, prog_1_method_36_code, 1, (some .int), { frames := 0, cells := 0, slots := 0, locals := 0 }, 0, 6)
def m_Cs_upper : MS := (⟨"ColdShares", "upper", "()J"⟩, prog_1_method_37_code, 1, (some .long), { frames := 0, cells := 0, slots := 0, locals := 0 }, 0, 6)
def m_Cs_lower : MS := (⟨"ColdShares", "lower", "()J"⟩, prog_1_method_38_code, 1, (some .long), { frames := 0, cells := 0, slots := 0, locals := 0 }, 0, 6)
def m_St_painTillNow : MS := (⟨"ColdShares$Street", "painTillNow", "()I"⟩, prog_6_method_13_code, 3, (some .int), { frames := 0, cells := 0, slots := 0, locals := 0 }, 0, 4)
def m_St_countOf : MS := (⟨"ColdShares$Street", "countOf", "(I)I"⟩, prog_6_method_14_code, 4, (some .int), { frames := 1, cells := 0, slots := 0, locals := 21 }, 1, 4)
def m_Cs_thereOf : MS := (⟨"ColdShares", "thereOf", "([LColdShares$Row;I)I"⟩, prog_1_method_56_code, 5, (some .int), { frames := 1, cells := 0, slots := 0, locals := 20 }, 2, 6)
def m_Cs_keptStreets : MS := (⟨"ColdShares", "keptStreets", "()I"⟩, prog_1_method_57_code, 3, (some .int), { frames := 1, cells := 0, slots := 0, locals := 20 }, 0, 6)
def m_Cs_count : MS := (⟨"ColdShares", "count", "(I)I"⟩, prog_1_method_39_code, 2, (some .int), { frames := 2, cells := 0, slots := 0, locals := 44 }, 1, 6)
def m_Cs_finding : MS := (⟨"ColdShares", "finding", "()I"⟩, prog_1_method_40_code, 1, (some .int), { frames := 0, cells := 0, slots := 0, locals := 0 }, 0, 6)
def m_Cs_findings : MS := (⟨"ColdShares", "findings", "(I)I"⟩, prog_1_method_41_code, 2, (some .int), { frames := 0, cells := 0, slots := 0, locals := 0 }, 1, 6)
def m_Ro_digestOn : MS := (⟨"ColdShares$Row", "digestOn", "(J)J"⟩, prog_5_method_5_code, 6, (some .long), { frames := 0, cells := 0, slots := 0, locals := 0 }, 1, 3)
def m_Cs_digest : MS := (⟨"ColdShares", "digest", "()J"⟩, prog_1_method_42_code, 5, (some .long), { frames := 5, cells := 0, slots := 0, locals := 108 }, 0, 6)
def m_Mo_finding : MS := (⟨"ColdSharesModel", "finding", "()I"⟩, prog_9_method_6_code, 1, (some .int), { frames := 0, cells := 0, slots := 0, locals := 0 }, 0, 7)
def m_Mo_in : MS := (⟨"ColdSharesModel", "in", "(III)Z"⟩, prog_9_method_2_code, 3, (some .boolean), { frames := 0, cells := 0, slots := 0, locals := 0 }, 3, 7)
def m_Mo_findings : MS := (⟨"ColdSharesModel", "findings", "(I)I"⟩, prog_9_method_7_code, 2, (some .int), { frames := 1, cells := 0, slots := 0, locals := 22 }, 1, 7)
def m_Mo_asked : MS := (⟨"ColdSharesModel", "asked", "()I"⟩, prog_9_method_9_code, 1, (some .int), { frames := 0, cells := 0, slots := 0, locals := 0 }, 0, 7)
def m_Mo_upper : MS := (⟨"ColdSharesModel", "upper", "()J"⟩, prog_9_method_11_code, 1, (some .long), { frames := 0, cells := 0, slots := 0, locals := 0 }, 0, 7)
def m_Mo_lower : MS := (⟨"ColdSharesModel", "lower", "()J"⟩, prog_9_method_12_code, 1, (some .long), { frames := 0, cells := 0, slots := 0, locals := 0 }, 0, 7)
def m_Mo_isRow : MS := (⟨"ColdSharesModel", "isRow", "(I)Z"⟩, prog_9_method_13_code, 1, (some .boolean), { frames := 1, cells := 0, slots := 0, locals := 22 }, 1, 7)
def m_Mo_meets : MS := (⟨"ColdSharesModel", "meets", "(I)I"⟩, prog_9_method_5_code, 2, (some .int), { frames := 0, cells := 0, slots := 0, locals := 0 }, 1, 7)
def m_Mo_row : MS := (⟨"ColdSharesModel", "row", "(II)I"⟩, prog_9_method_15_code, 4, (some .int), { frames := 2, cells := 0, slots := 0, locals := 42 }, 2, 7)
def m_Mo_rowAt : MS := (⟨"ColdSharesModel", "rowAt", "(II)I"⟩, prog_9_method_14_code, 3, (some .int), { frames := 0, cells := 0, slots := 0, locals := 0 }, 2, 7)
def m_Mo_tells : MS := (⟨"ColdSharesModel", "tells", "(II)I"⟩, prog_9_method_8_code, 3, (some .int), { frames := 0, cells := 0, slots := 0, locals := 0 }, 2, 7)
def m_Mo_lay : MS := (⟨"ColdSharesModel", "lay", "(III)I"⟩, prog_9_method_16_code, 5, (some .int), { frames := 2, cells := 0, slots := 0, locals := 42 }, 3, 7)
def m_Mo_at : MS := (⟨"ColdSharesModel", "at", "(II)I"⟩, prog_9_method_17_code, 3, (some .int), { frames := 2, cells := 0, slots := 0, locals := 42 }, 2, 7)
def m_Mo_tear : MS := (⟨"ColdSharesModel", "tear", "(I)I"⟩, prog_9_method_18_code, 2, (some .int), { frames := 2, cells := 0, slots := 0, locals := 42 }, 1, 7)
def m_Mo_copy : MS := (⟨"ColdSharesModel", "copy", "(IIIII)I"⟩, prog_9_method_19_code, 7, (some .int), { frames := 2, cells := 0, slots := 0, locals := 42 }, 5, 7)
def m_Mo_mean : MS := (⟨"ColdSharesModel", "mean", "(I)I"⟩, prog_9_method_20_code, 5, (some .int), { frames := 2, cells := 0, slots := 0, locals := 42 }, 1, 7)
def m_Mo_isText : MS := (⟨"ColdSharesModel", "isText", "(I)Z"⟩, prog_9_method_21_code, 1, (some .boolean), { frames := 1, cells := 0, slots := 0, locals := 22 }, 1, 7)
def m_Mo_text : MS := (⟨"ColdSharesModel", "text", "(II)I"⟩, prog_9_method_22_code, 4, (some .int), { frames := 2, cells := 0, slots := 0, locals := 42 }, 2, 7)
def m_Mo_put : MS := (⟨"ColdSharesModel", "put", "(III)I"⟩, prog_9_method_23_code, 5, (some .int), { frames := 2, cells := 0, slots := 0, locals := 42 }, 3, 7)
def m_Mo_byteAt : MS := (⟨"ColdSharesModel", "byteAt", "(II)I"⟩, prog_9_method_24_code, 3, (some .int), { frames := 0, cells := 0, slots := 0, locals := 0 }, 2, 7)
def m_Mo_isFigure : MS := (⟨"ColdSharesModel", "isFigure", "(I)Z"⟩, prog_9_method_27_code, 2, (some .boolean), { frames := 1, cells := 0, slots := 0, locals := 22 }, 1, 7)
def m_Mo_readsNights : MS := (⟨"ColdSharesModel", "readsNights", "(I)Z"⟩, prog_9_method_28_code, 2, (some .boolean), { frames := 2, cells := 0, slots := 0, locals := 43 }, 1, 7)
def m_Mo_kindOf : MS := (⟨"ColdSharesModel", "kindOf", "(I)I"⟩, prog_9_method_26_code, 1, (some .int), { frames := 0, cells := 0, slots := 0, locals := 0 }, 1, 7)
def m_Mo_readsHouse : MS := (⟨"ColdSharesModel", "readsHouse", "(I)Z"⟩, prog_9_method_29_code, 5, (some .boolean), { frames := 2, cells := 0, slots := 0, locals := 43 }, 1, 7)
def m_Mo_faultOf : MS := (⟨"ColdSharesModel", "faultOf", "(I)I"⟩, prog_9_method_30_code, 2, (some .int), { frames := 3, cells := 0, slots := 0, locals := 67 }, 1, 7)
def m_Mo_fault : MS := (⟨"ColdSharesModel", "fault", "(I)I"⟩, prog_9_method_31_code, 2, (some .int), { frames := 4, cells := 0, slots := 0, locals := 88 }, 1, 7)
def m_Mo_street : MS := (⟨"ColdSharesModel", "street", "(I)I"⟩, prog_9_method_32_code, 3, (some .int), { frames := 4, cells := 0, slots := 0, locals := 88 }, 1, 7)
def m_Mo_isHouse : MS := (⟨"ColdSharesModel", "isHouse", "(I)Z"⟩, prog_9_method_33_code, 2, (some .boolean), { frames := 1, cells := 0, slots := 0, locals := 22 }, 1, 7)
def m_Mo_isCandlemas : MS := (⟨"ColdSharesModel", "isCandlemas", "()Z"⟩, prog_9_method_39_code, 1, (some .boolean), { frames := 0, cells := 0, slots := 0, locals := 0 }, 0, 7)
def m_Mo_didBear : MS := (⟨"ColdSharesModel", "didBear", "(I)Z"⟩, prog_9_method_40_code, 2, (some .boolean), { frames := 0, cells := 0, slots := 0, locals := 0 }, 1, 7)
def m_Mo_isMiser : MS := (⟨"ColdSharesModel", "isMiser", "(I)Z"⟩, prog_9_method_37_code, 2, (some .boolean), { frames := 0, cells := 0, slots := 0, locals := 0 }, 1, 7)
def m_Mo_lesser : MS := (⟨"ColdSharesModel", "lesser", "(II)I"⟩, prog_9_method_4_code, 2, (some .int), { frames := 0, cells := 0, slots := 0, locals := 0 }, 2, 7)
def m_Mo_canIn : MS := (⟨"ColdSharesModel", "canIn", "(II)I"⟩, prog_9_method_38_code, 3, (some .int), { frames := 1, cells := 0, slots := 0, locals := 21 }, 2, 7)
def m_Mo_canOn : MS := (⟨"ColdSharesModel", "canOn", "(II)I"⟩, prog_9_method_41_code, 3, (some .int), { frames := 2, cells := 0, slots := 0, locals := 43 }, 2, 7)
def m_Mo_canTonight : MS := (⟨"ColdSharesModel", "canTonight", "(I)I"⟩, prog_9_method_42_code, 2, (some .int), { frames := 3, cells := 0, slots := 0, locals := 65 }, 1, 7)
def m_Mo_houseTells : MS := (⟨"ColdSharesModel", "houseTells", "(II)I"⟩, prog_9_method_43_code, 3, (some .int), { frames := 4, cells := 0, slots := 0, locals := 86 }, 2, 7)
def m_Mo_house : MS := (⟨"ColdSharesModel", "house", "(II)I"⟩, prog_9_method_44_code, 3, (some .int), { frames := 5, cells := 0, slots := 0, locals := 108 }, 2, 7)
def m_Mo_isNight : MS := (⟨"ColdSharesModel", "isNight", "(I)Z"⟩, prog_9_method_34_code, 2, (some .boolean), { frames := 1, cells := 0, slots := 0, locals := 22 }, 1, 7)
def m_Mo_cold : MS := (⟨"ColdSharesModel", "cold", "(I)I"⟩, prog_9_method_45_code, 2, (some .int), { frames := 2, cells := 0, slots := 0, locals := 43 }, 1, 7)
def m_Mo_squared : MS := (⟨"ColdSharesModel", "squared", "(II)I"⟩, prog_9_method_35_code, 2, (some .int), { frames := 0, cells := 0, slots := 0, locals := 0 }, 2, 7)
def m_Mo_hurtOf : MS := (⟨"ColdSharesModel", "hurtOf", "(II)I"⟩, prog_9_method_36_code, 3, (some .int), { frames := 1, cells := 0, slots := 0, locals := 21 }, 2, 7)
def m_Mo_painless : MS := (⟨"ColdSharesModel", "painless", "(I)I"⟩, prog_9_method_46_code, 4, (some .int), { frames := 2, cells := 0, slots := 0, locals := 43 }, 1, 7)
def m_Mo_firstHurt : MS := (⟨"ColdSharesModel", "firstHurt", "(I)I"⟩, prog_9_method_47_code, 3, (some .int), { frames := 2, cells := 0, slots := 0, locals := 43 }, 1, 7)
def m_Mo_mark : MS := (⟨"ColdSharesModel", "mark", "(II)I"⟩, prog_9_method_48_code, 4, (some .int), { frames := 3, cells := 0, slots := 0, locals := 66 }, 2, 7)
def m_Mo_wind : MS := (⟨"ColdSharesModel", "wind", "(II)I"⟩, prog_9_method_49_code, 4, (some .int), { frames := 2, cells := 0, slots := 0, locals := 43 }, 2, 7)
def m_Mo_remember : MS := (⟨"ColdSharesModel", "remember", "()V"⟩, prog_9_method_50_code, 2, none, { frames := 0, cells := 0, slots := 0, locals := 0 }, 0, 7)
def m_Mo_bears : MS := (⟨"ColdSharesModel", "bears", "(II)I"⟩, prog_9_method_51_code, 4, (some .int), { frames := 2, cells := 0, slots := 0, locals := 43 }, 2, 7)
def m_Mo_bear : MS := (⟨"ColdSharesModel", "bear", "(II)I"⟩, prog_9_method_53_code, 3, (some .int), { frames := 4, cells := 0, slots := 0, locals := 86 }, 2, 7)
def m_Mo_sell : MS := (⟨"ColdSharesModel", "sell", "(III)I"⟩, prog_9_method_54_code, 4, (some .int), { frames := 2, cells := 0, slots := 0, locals := 43 }, 3, 7)
def m_Mo_passes : MS := (⟨"ColdSharesModel", "passes", "()V"⟩, prog_9_method_52_code, 2, none, { frames := 1, cells := 0, slots := 0, locals := 21 }, 0, 7)
def m_Mo_night : MS := (⟨"ColdSharesModel", "night", "()I"⟩, prog_9_method_55_code, 1, (some .int), { frames := 2, cells := 0, slots := 0, locals := 42 }, 0, 7)
def m_Mo_undo : MS := (⟨"ColdSharesModel", "undo", "(I)I"⟩, prog_9_method_56_code, 4, (some .int), { frames := 1, cells := 0, slots := 0, locals := 22 }, 1, 7)
def m_Mo_keep : MS := (⟨"ColdSharesModel", "keep", "(I)I"⟩, prog_9_method_57_code, 3, (some .int), { frames := 1, cells := 0, slots := 0, locals := 22 }, 1, 7)
def m_Mo_on : MS := (⟨"ColdSharesModel", "on", "(I)I"⟩, prog_9_method_58_code, 3, (some .int), { frames := 1, cells := 0, slots := 0, locals := 22 }, 1, 7)
def m_Mo_hurt : MS := (⟨"ColdSharesModel", "hurt", "(II)I"⟩, prog_9_method_62_code, 3, (some .int), { frames := 2, cells := 0, slots := 0, locals := 43 }, 2, 7)
def m_Mo_mostOf : MS := (⟨"ColdSharesModel", "mostOf", "(I)I"⟩, prog_9_method_63_code, 4, (some .int), { frames := 3, cells := 0, slots := 0, locals := 65 }, 1, 7)
def m_Mo_most : MS := (⟨"ColdSharesModel", "most", "(I)I"⟩, prog_9_method_64_code, 2, (some .int), { frames := 4, cells := 0, slots := 0, locals := 88 }, 1, 7)
def m_Mo_layPlans : MS := (⟨"ColdSharesModel", "layPlans", "(I)V"⟩, prog_9_method_59_code, 6, none, { frames := 3, cells := 0, slots := 0, locals := 65 }, 1, 7)
def m_Mo_layRow : MS := (⟨"ColdSharesModel", "layRow", "(I[II)V"⟩, prog_9_method_25_code, 5, none, { frames := 0, cells := 0, slots := 0, locals := 0 }, 3, 7)
def m_Mo_least : MS := (⟨"ColdSharesModel", "least", "(II)I"⟩, prog_9_method_65_code, 8, (some .int), { frames := 4, cells := 0, slots := 0, locals := 90 }, 2, 7)
def m_Mo_layLeasts : MS := (⟨"ColdSharesModel", "layLeasts", "()V"⟩, prog_9_method_60_code, 3, none, { frames := 4, cells := 0, slots := 0, locals := 90 }, 0, 7)
def m_Mo_leastOf : MS := (⟨"ColdSharesModel", "leastOf", "(II)I"⟩, prog_9_method_61_code, 3, (some .int), { frames := 0, cells := 0, slots := 0, locals := 0 }, 2, 7)
def m_Mo_price : MS := (⟨"ColdSharesModel", "price", "(I)I"⟩, prog_9_method_66_code, 4, (some .int), { frames := 5, cells := 0, slots := 0, locals := 112 }, 1, 7)
def m_Mo_late : MS := (⟨"ColdSharesModel", "late", "()I"⟩, prog_9_method_67_code, 5, (some .int), { frames := 5, cells := 0, slots := 0, locals := 112 }, 0, 7)
def m_Mo_gainOf : MS := (⟨"ColdSharesModel", "gainOf", "(II)I"⟩, prog_9_method_68_code, 8, (some .int), { frames := 1, cells := 0, slots := 0, locals := 22 }, 2, 7)
def m_Mo_gain : MS := (⟨"ColdSharesModel", "gain", "(II)I"⟩, prog_9_method_69_code, 3, (some .int), { frames := 5, cells := 0, slots := 0, locals := 112 }, 2, 7)
def m_Mo_sales : MS := (⟨"ColdSharesModel", "sales", "()I"⟩, prog_9_method_70_code, 7, (some .int), { frames := 5, cells := 0, slots := 0, locals := 112 }, 0, 7)
def m_Mo_everybody : MS := (⟨"ColdSharesModel", "everybody", "()I"⟩, prog_9_method_74_code, 1, (some .int), { frames := 0, cells := 0, slots := 0, locals := 0 }, 0, 7)
def m_Mo_has : MS := (⟨"ColdSharesModel", "has", "(II)Z"⟩, prog_9_method_3_code, 2, (some .boolean), { frames := 0, cells := 0, slots := 0, locals := 0 }, 2, 7)
def m_Mo_owedBy : MS := (⟨"ColdSharesModel", "owedBy", "(I)I"⟩, prog_9_method_72_code, 4, (some .int), { frames := 1, cells := 0, slots := 0, locals := 21 }, 1, 7)
def m_Mo_sharedAt : MS := (⟨"ColdSharesModel", "sharedAt", "(II)I"⟩, prog_9_method_71_code, 2, (some .int), { frames := 0, cells := 0, slots := 0, locals := 0 }, 2, 7)
def m_Mo_shareOf : MS := (⟨"ColdSharesModel", "shareOf", "(I)I"⟩, prog_9_method_73_code, 9, (some .int), { frames := 4, cells := 0, slots := 0, locals := 88 }, 1, 7)
def m_Mo_share : MS := (⟨"ColdSharesModel", "share", "(I)I"⟩, prog_9_method_75_code, 6, (some .int), { frames := 5, cells := 0, slots := 0, locals := 116 }, 1, 7)
def m_Mo_byThemselves : MS := (⟨"ColdSharesModel", "byThemselves", "(I)I"⟩, prog_9_method_76_code, 4, (some .int), { frames := 1, cells := 0, slots := 0, locals := 22 }, 1, 7)
def m_Mo_savesOf : MS := (⟨"ColdSharesModel", "savesOf", "(I)I"⟩, prog_9_method_77_code, 3, (some .int), { frames := 5, cells := 0, slots := 0, locals := 116 }, 1, 7)
def m_Mo_saves : MS := (⟨"ColdSharesModel", "saves", "(I)I"⟩, prog_9_method_78_code, 2, (some .int), { frames := 6, cells := 0, slots := 0, locals := 138 }, 1, 7)
def m_Mo_bits : MS := (⟨"ColdSharesModel", "bits", "(I)I"⟩, prog_9_method_80_code, 3, (some .int), { frames := 0, cells := 0, slots := 0, locals := 0 }, 1, 7)
def m_Mo_times : MS := (⟨"ColdSharesModel", "times", "(I)I"⟩, prog_9_method_79_code, 3, (some .int), { frames := 0, cells := 0, slots := 0, locals := 0 }, 1, 7)
def m_Mo_fraction : MS := (⟨"ColdSharesModel", "fraction", "(JJ)I"⟩, prog_9_method_10_code, 11, (some .int), { frames := 0, cells := 0, slots := 0, locals := 0 }, 2, 7)
def m_Mo_part : MS := (⟨"ColdSharesModel", "part", "(I)I"⟩, prog_9_method_81_code, 6, (some .int), { frames := 6, cells := 0, slots := 0, locals := 138 }, 1, 7)
def m_Mo_wayAt : MS := (⟨"ColdSharesModel", "wayAt", "(II)I"⟩, prog_9_method_82_code, 2, (some .int), { frames := 0, cells := 0, slots := 0, locals := 0 }, 2, 7)
def m_Mo_waysOf : MS := (⟨"ColdSharesModel", "waysOf", "(III)I"⟩, prog_9_method_83_code, 9, (some .int), { frames := 2, cells := 0, slots := 0, locals := 43 }, 3, 7)
def m_Mo_ice : MS := (⟨"ColdSharesModel", "ice", "(II)I"⟩, prog_9_method_84_code, 6, (some .int), { frames := 3, cells := 0, slots := 0, locals := 71 }, 2, 7)
def m_Mo_odds : MS := (⟨"ColdSharesModel", "odds", "(I)I"⟩, prog_9_method_85_code, 9, (some .int), { frames := 3, cells := 0, slots := 0, locals := 65 }, 1, 7)
def m_Mo_risk : MS := (⟨"ColdSharesModel", "risk", "(I)I"⟩, prog_9_method_86_code, 4, (some .int), { frames := 2, cells := 0, slots := 0, locals := 43 }, 1, 7)
def m_Mo_lots : MS := (⟨"ColdSharesModel", "lots", "(II)I"⟩, prog_9_method_87_code, 9, (some .int), { frames := 4, cells := 0, slots := 0, locals := 86 }, 2, 7)
def m_Mo_counted : MS := (⟨"ColdSharesModel", "counted", "(I)I"⟩, prog_9_method_88_code, 4, (some .int), { frames := 0, cells := 0, slots := 0, locals := 0 }, 1, 7)
def m_Mo_count : MS := (⟨"ColdSharesModel", "count", "(I)I"⟩, prog_9_method_89_code, 2, (some .int), { frames := 1, cells := 0, slots := 0, locals := 23 }, 1, 7)
def m_Mo_mix : MS := (⟨"ColdSharesModel", "mix", "(J)V"⟩, prog_9_method_90_code, 3, none, { frames := 0, cells := 0, slots := 0, locals := 0 }, 1, 7)
def m_Mo_mixStreet : MS := (⟨"ColdSharesModel", "mixStreet", "()V"⟩, prog_9_method_91_code, 3, none, { frames := 5, cells := 0, slots := 0, locals := 108 }, 0, 7)
def m_Mo_digest : MS := (⟨"ColdSharesModel", "digest", "()J"⟩, prog_9_method_92_code, 3, (some .long), { frames := 6, cells := 0, slots := 0, locals := 130 }, 0, 7)
def m_La_law : MS := (⟨"ColdSharesLaw", "law", "([I)Z"⟩, code, 4, some .boolean, room_1, 1, 99)
theorem cw_Jm_max : Cond.code (my m_Jm_max) (mc m_Jm_max) (mL m_Jm_max) (mr m_Jm_max) ∈ lw_g := atc (k := 1) (j := 170) rfl rfl
theorem pf_Jm_max : plainFor (my m_Jm_max) = true := by decide +kernel
theorem cw_Cs_noRow : Cond.code (my m_Cs_noRow) (mc m_Cs_noRow) (mL m_Cs_noRow) (mr m_Cs_noRow) ∈ lw_g := atc (k := 1) (j := 226) rfl rfl
theorem pf_Cs_noRow : plainFor (my m_Cs_noRow) = true := by decide +kernel
theorem cw_Cs_answer : Cond.code (my m_Cs_answer) (mc m_Cs_answer) (mL m_Cs_answer) (mr m_Cs_answer) ∈ lw_g := atc (k := 1) (j := 230) rfl rfl
theorem pf_Cs_answer : plainFor (my m_Cs_answer) = true := by decide +kernel
theorem cw_Ja_rangeCheck : Cond.code (my m_Ja_rangeCheck) (mc m_Ja_rangeCheck) (mL m_Ja_rangeCheck) (mr m_Ja_rangeCheck) ∈ lw_g := atc (k := 2) (j := 0) rfl rfl
theorem pf_Ja_rangeCheck : plainFor (my m_Ja_rangeCheck) = true := by decide +kernel
theorem cw_Ja_fill4 : Cond.code (my m_Ja_fill4) (mc m_Ja_fill4) (mL m_Ja_fill4) (mr m_Ja_fill4) ∈ lw_g := atc (k := 1) (j := 237) rfl rfl
theorem pf_Ja_fill4 : plainFor (my m_Ja_fill4) = true := by decide +kernel
theorem cw_Ro_begin : Cond.code (my m_Ro_begin) (mc m_Ro_begin) (mL m_Ro_begin) (mr m_Ro_begin) ∈ lw_g := atc (k := 1) (j := 234) rfl rfl
theorem pf_Ro_begin : plainFor (my m_Ro_begin) = true := by decide +kernel
theorem cw_Cs_row : Cond.code (my m_Cs_row) (mc m_Cs_row) (mL m_Cs_row) (mr m_Cs_row) ∈ lw_g := atc (k := 1) (j := 222) rfl rfl
theorem pf_Cs_row : plainFor (my m_Cs_row) = true := by decide +kernel
theorem cw_Ro_isMissing : Cond.code (my m_Ro_isMissing) (mc m_Ro_isMissing) (mL m_Ro_isMissing) (mr m_Ro_isMissing) ∈ lw_g := atc (k := 2) (j := 12) rfl rfl
theorem pf_Ro_isMissing : plainFor (my m_Ro_isMissing) = true := by decide +kernel
theorem cw_Ro_has : Cond.code (my m_Ro_has) (mc m_Ro_has) (mL m_Ro_has) (mr m_Ro_has) ∈ lw_g := atc (k := 2) (j := 16) rfl rfl
theorem pf_Ro_has : plainFor (my m_Ro_has) = true := by decide +kernel
theorem cw_Cs_at : Cond.code (my m_Cs_at) (mc m_Cs_at) (mL m_Cs_at) (mr m_Cs_at) ∈ lw_g := atc (k := 2) (j := 8) rfl rfl
theorem pf_Cs_at : plainFor (my m_Cs_at) = true := by decide +kernel
theorem cw_Cs_lay : Cond.code (my m_Cs_lay) (mc m_Cs_lay) (mL m_Cs_lay) (mr m_Cs_lay) ∈ lw_g := atc (k := 2) (j := 4) rfl rfl
theorem pf_Cs_lay : plainFor (my m_Cs_lay) = true := by decide +kernel
theorem cw_Cs_tear : Cond.code (my m_Cs_tear) (mc m_Cs_tear) (mL m_Cs_tear) (mr m_Cs_tear) ∈ lw_g := atc (k := 2) (j := 21) rfl rfl
theorem pf_Cs_tear : plainFor (my m_Cs_tear) = true := by decide +kernel
theorem cw_Cs_copy : Cond.code (my m_Cs_copy) (mc m_Cs_copy) (mL m_Cs_copy) (mr m_Cs_copy) ∈ lw_g := atc (k := 2) (j := 25) rfl rfl
theorem pf_Cs_copy : plainFor (my m_Cs_copy) = true := by decide +kernel
theorem cw_Cs_mean : Cond.code (my m_Cs_mean) (mc m_Cs_mean) (mL m_Cs_mean) (mr m_Cs_mean) ∈ lw_g := atc (k := 2) (j := 32) rfl rfl
theorem pf_Cs_mean : plainFor (my m_Cs_mean) = true := by decide +kernel
theorem cw_Cs_noText : Cond.code (my m_Cs_noText) (mc m_Cs_noText) (mL m_Cs_noText) (mr m_Cs_noText) ∈ lw_g := atc (k := 2) (j := 40) rfl rfl
theorem pf_Cs_noText : plainFor (my m_Cs_noText) = true := by decide +kernel
theorem cw_Cs_text : Cond.code (my m_Cs_text) (mc m_Cs_text) (mL m_Cs_text) (mr m_Cs_text) ∈ lw_g := atc (k := 2) (j := 36) rfl rfl
theorem pf_Cs_text : plainFor (my m_Cs_text) = true := by decide +kernel
theorem cw_Cs_put : Cond.code (my m_Cs_put) (mc m_Cs_put) (mL m_Cs_put) (mr m_Cs_put) ∈ lw_g := atc (k := 2) (j := 44) rfl rfl
theorem pf_Cs_put : plainFor (my m_Cs_put) = true := by decide +kernel
theorem cw_St_clear : Cond.code (my m_St_clear) (mc m_St_clear) (mL m_St_clear) (mr m_St_clear) ∈ lw_g := atc (k := 2) (j := 56) rfl rfl
theorem pf_St_clear : plainFor (my m_St_clear) = true := by decide +kernel
theorem cw_Re_sign : Cond.code (my m_Re_sign) (mc m_Re_sign) (mL m_Re_sign) (mr m_Re_sign) ∈ lw_g := atc (k := 2) (j := 64) rfl rfl
theorem pf_Re_sign : plainFor (my m_Re_sign) = true := by decide +kernel
theorem cw_Re_skipBlanks : Cond.code (my m_Re_skipBlanks) (mc m_Re_skipBlanks) (mL m_Re_skipBlanks) (mr m_Re_skipBlanks) ∈ lw_g := atc (k := 2) (j := 60) rfl rfl
theorem pf_Re_skipBlanks : plainFor (my m_Re_skipBlanks) = true := by decide +kernel
theorem cw_Re_isFigure : Cond.code (my m_Re_isFigure) (mc m_Re_isFigure) (mL m_Re_isFigure) (mr m_Re_isFigure) ∈ lw_g := atc (k := 2) (j := 73) rfl rfl
theorem pf_Re_isFigure : plainFor (my m_Re_isFigure) = true := by decide +kernel
theorem cw_Re_takeFigure : Cond.code (my m_Re_takeFigure) (mc m_Re_takeFigure) (mL m_Re_takeFigure) (mr m_Re_takeFigure) ∈ lw_g := atc (k := 2) (j := 77) rfl rfl
theorem pf_Re_takeFigure : plainFor (my m_Re_takeFigure) = true := by decide +kernel
theorem cw_Re_readNights : Cond.code (my m_Re_readNights) (mc m_Re_readNights) (mL m_Re_readNights) (mr m_Re_readNights) ∈ lw_g := atc (k := 2) (j := 69) rfl rfl
theorem pf_Re_readNights : plainFor (my m_Re_readNights) = true := by decide +kernel
theorem cw_Re_kindOfSign : Cond.code (my m_Re_kindOfSign) (mc m_Re_kindOfSign) (mL m_Re_kindOfSign) (mr m_Re_kindOfSign) ∈ lw_g := atc (k := 2) (j := 85) rfl rfl
theorem pf_Re_kindOfSign : plainFor (my m_Re_kindOfSign) = true := by decide +kernel
theorem cw_Ho_restart : Cond.code (my m_Ho_restart) (mc m_Ho_restart) (mL m_Ho_restart) (mr m_Ho_restart) ∈ lw_g := atc (k := 2) (j := 95) rfl rfl
theorem pf_Ho_restart : plainFor (my m_Ho_restart) = true := by decide +kernel
theorem cw_Ho_become : Cond.code (my m_Ho_become) (mc m_Ho_become) (mL m_Ho_become) (mr m_Ho_become) ∈ lw_g := atc (k := 2) (j := 91) rfl rfl
theorem pf_Ho_become : plainFor (my m_Ho_become) = true := by decide +kernel
theorem cw_Re_readHouse : Cond.code (my m_Re_readHouse) (mc m_Re_readHouse) (mL m_Re_readHouse) (mr m_Re_readHouse) ∈ lw_g := atc (k := 2) (j := 81) rfl rfl
theorem pf_Re_readHouse : plainFor (my m_Re_readHouse) = true := by decide +kernel
theorem cw_St_isEmpty : Cond.code (my m_St_isEmpty) (mc m_St_isEmpty) (mL m_St_isEmpty) (mr m_St_isEmpty) ∈ lw_g := atc (k := 2) (j := 99) rfl rfl
theorem pf_St_isEmpty : plainFor (my m_St_isEmpty) = true := by decide +kernel
theorem cw_Re_read : Cond.code (my m_Re_read) (mc m_Re_read) (mL m_Re_read) (mr m_Re_read) ∈ lw_g := atc (k := 2) (j := 52) rfl rfl
theorem pf_Re_read : plainFor (my m_Re_read) = true := by decide +kernel
theorem cw_Cs_fault : Cond.code (my m_Cs_fault) (mc m_Cs_fault) (mL m_Cs_fault) (mr m_Cs_fault) ∈ lw_g := atc (k := 2) (j := 48) rfl rfl
theorem pf_Cs_fault : plainFor (my m_Cs_fault) = true := by decide +kernel
theorem cw_St_passNight : Cond.code (my m_St_passNight) (mc m_St_passNight) (mL m_St_passNight) (mr m_St_passNight) ∈ lw_g := atc (k := 2) (j := 122) rfl rfl
theorem pf_St_passNight : plainFor (my m_St_passNight) = true := by decide +kernel
theorem cw_Ho_squareAbove : Cond.code (my m_Ho_squareAbove) (mc m_Ho_squareAbove) (mL m_Ho_squareAbove) (mr m_Ho_squareAbove) ∈ lw_g := atc (k := 2) (j := 138) rfl rfl
theorem pf_Ho_squareAbove : plainFor (my m_Ho_squareAbove) = true := by decide +kernel
theorem cw_Ho_painOf : Cond.code (my m_Ho_painOf) (mc m_Ho_painOf) (mL m_Ho_painOf) (mr m_Ho_painOf) ∈ lw_g := atc (k := 2) (j := 130) rfl rfl
theorem pf_Ho_painOf : plainFor (my m_Ho_painOf) = true := by decide +kernel
theorem cw_Ho_bearTonight : Cond.code (my m_Ho_bearTonight) (mc m_Ho_bearTonight) (mL m_Ho_bearTonight) (mr m_Ho_bearTonight) ∈ lw_g := atc (k := 2) (j := 126) rfl rfl
theorem pf_Ho_bearTonight : plainFor (my m_Ho_bearTonight) = true := by decide +kernel
theorem cw_St_perform : Cond.code (my m_St_perform) (mc m_St_perform) (mL m_St_perform) (mr m_St_perform) ∈ lw_g := atc (k := 2) (j := 118) rfl rfl
theorem pf_St_perform : plainFor (my m_St_perform) = true := by decide +kernel
theorem cw_St_replay : Cond.code (my m_St_replay) (mc m_St_replay) (mL m_St_replay) (mr m_St_replay) ∈ lw_g := atc (k := 2) (j := 113) rfl rfl
theorem pf_St_replay : plainFor (my m_St_replay) = true := by decide +kernel
theorem cw_St_take : Cond.code (my m_St_take) (mc m_St_take) (mL m_St_take) (mr m_St_take) ∈ lw_g := atc (k := 2) (j := 107) rfl rfl
theorem pf_St_take : plainFor (my m_St_take) = true := by decide +kernel
theorem cw_Cs_street : Cond.code (my m_Cs_street) (mc m_Cs_street) (mL m_Cs_street) (mr m_Cs_street) ∈ lw_g := atc (k := 2) (j := 103) rfl rfl
theorem pf_Cs_street : plainFor (my m_Cs_street) = true := by decide +kernel
theorem cw_Cs_noHouse : Cond.code (my m_Cs_noHouse) (mc m_Cs_noHouse) (mL m_Cs_noHouse) (mr m_Cs_noHouse) ∈ lw_g := atc (k := 2) (j := 147) rfl rfl
theorem pf_Cs_noHouse : plainFor (my m_Cs_noHouse) = true := by decide +kernel
theorem cw_St_isCandlemas : Cond.code (my m_St_isCandlemas) (mc m_St_isCandlemas) (mL m_St_isCandlemas) (mr m_St_isCandlemas) ∈ lw_g := atc (k := 2) (j := 159) rfl rfl
theorem pf_St_isCandlemas : plainFor (my m_St_isCandlemas) = true := by decide +kernel
theorem cw_Ho_isOf : Cond.code (my m_Ho_isOf) (mc m_Ho_isOf) (mL m_Ho_isOf) (mr m_Ho_isOf) ∈ lw_g := atc (k := 2) (j := 171) rfl rfl
theorem pf_Ho_isOf : plainFor (my m_Ho_isOf) = true := by decide +kernel
theorem cw_Jm_min : Cond.code (my m_Jm_min) (mc m_Jm_min) (mL m_Jm_min) (mr m_Jm_min) ∈ lw_g := atc (k := 2) (j := 176) rfl rfl
theorem pf_Jm_min : plainFor (my m_Jm_min) = true := by decide +kernel
theorem cw_Ho_canAt : Cond.code (my m_Ho_canAt) (mc m_Ho_canAt) (mL m_Ho_canAt) (mr m_Ho_canAt) ∈ lw_g := atc (k := 2) (j := 167) rfl rfl
theorem pf_Ho_canAt : plainFor (my m_Ho_canAt) = true := by decide +kernel
theorem cw_St_topIn : Cond.code (my m_St_topIn) (mc m_St_topIn) (mL m_St_topIn) (mr m_St_topIn) ∈ lw_g := atc (k := 2) (j := 163) rfl rfl
theorem pf_St_topIn : plainFor (my m_St_topIn) = true := by decide +kernel
theorem cw_St_canTonight : Cond.code (my m_St_canTonight) (mc m_St_canTonight) (mL m_St_canTonight) (mr m_St_canTonight) ∈ lw_g := atc (k := 2) (j := 155) rfl rfl
theorem pf_St_canTonight : plainFor (my m_St_canTonight) = true := by decide +kernel
theorem cw_Cs_sideOf : Cond.code (my m_Cs_sideOf) (mc m_Cs_sideOf) (mL m_Cs_sideOf) (mr m_Cs_sideOf) ∈ lw_g := atc (k := 2) (j := 151) rfl rfl
theorem pf_Cs_sideOf : plainFor (my m_Cs_sideOf) = true := by decide +kernel
theorem cw_Cs_house : Cond.code (my m_Cs_house) (mc m_Cs_house) (mL m_Cs_house) (mr m_Cs_house) ∈ lw_g := atc (k := 2) (j := 143) rfl rfl
theorem pf_Cs_house : plainFor (my m_Cs_house) = true := by decide +kernel
theorem cw_Cs_noNight : Cond.code (my m_Cs_noNight) (mc m_Cs_noNight) (mL m_Cs_noNight) (mr m_Cs_noNight) ∈ lw_g := atc (k := 2) (j := 185) rfl rfl
theorem pf_Cs_noNight : plainFor (my m_Cs_noNight) = true := by decide +kernel
theorem cw_Cs_cold : Cond.code (my m_Cs_cold) (mc m_Cs_cold) (mL m_Cs_cold) (mr m_Cs_cold) ∈ lw_g := atc (k := 2) (j := 181) rfl rfl
theorem pf_Cs_cold : plainFor (my m_Cs_cold) = true := by decide +kernel
theorem cw_Ho_mostWithoutPain : Cond.code (my m_Ho_mostWithoutPain) (mc m_Ho_mostWithoutPain) (mL m_Ho_mostWithoutPain) (mr m_Ho_mostWithoutPain) ∈ lw_g := atc (k := 2) (j := 198) rfl rfl
theorem pf_Ho_mostWithoutPain : plainFor (my m_Ho_mostWithoutPain) = true := by decide +kernel
theorem cw_Ho_plainPainOf : Cond.code (my m_Ho_plainPainOf) (mc m_Ho_plainPainOf) (mL m_Ho_plainPainOf) (mr m_Ho_plainPainOf) ∈ lw_g := atc (k := 2) (j := 202) rfl rfl
theorem pf_Ho_plainPainOf : plainFor (my m_Ho_plainPainOf) = true := by decide +kernel
theorem cw_Ho_leastWithPain : Cond.code (my m_Ho_leastWithPain) (mc m_Ho_leastWithPain) (mL m_Ho_leastWithPain) (mr m_Ho_leastWithPain) ∈ lw_g := atc (k := 2) (j := 206) rfl rfl
theorem pf_Ho_leastWithPain : plainFor (my m_Ho_leastWithPain) = true := by decide +kernel
theorem cw_Ho_tellsAs : Cond.code (my m_Ho_tellsAs) (mc m_Ho_tellsAs) (mL m_Ho_tellsAs) (mr m_Ho_tellsAs) ∈ lw_g := atc (k := 2) (j := 194) rfl rfl
theorem pf_Ho_tellsAs : plainFor (my m_Ho_tellsAs) = true := by decide +kernel
theorem cw_Cs_mark : Cond.code (my m_Cs_mark) (mc m_Cs_mark) (mL m_Cs_mark) (mr m_Cs_mark) ∈ lw_g := atc (k := 2) (j := 189) rfl rfl
theorem pf_Cs_mark : plainFor (my m_Cs_mark) = true := by decide +kernel
theorem cw_Cs_wind : Cond.code (my m_Cs_wind) (mc m_Cs_wind) (mL m_Cs_wind) (mr m_Cs_wind) ∈ lw_g := atc (k := 2) (j := 210) rfl rfl
theorem pf_Cs_wind : plainFor (my m_Cs_wind) = true := by decide +kernel
theorem cw_St_act : Cond.code (my m_St_act) (mc m_St_act) (mL m_St_act) (mr m_St_act) ∈ lw_g := atc (k := 2) (j := 218) rfl rfl
theorem pf_St_act : plainFor (my m_St_act) = true := by decide +kernel
theorem cw_Cs_bear : Cond.code (my m_Cs_bear) (mc m_Cs_bear) (mL m_Cs_bear) (mr m_Cs_bear) ∈ lw_g := atc (k := 2) (j := 214) rfl rfl
theorem pf_Cs_bear : plainFor (my m_Cs_bear) = true := by decide +kernel
theorem cw_Cs_sell : Cond.code (my m_Cs_sell) (mc m_Cs_sell) (mL m_Cs_sell) (mr m_Cs_sell) ∈ lw_g := atc (k := 2) (j := 223) rfl rfl
theorem pf_Cs_sell : plainFor (my m_Cs_sell) = true := by decide +kernel
theorem cw_Cs_night : Cond.code (my m_Cs_night) (mc m_Cs_night) (mL m_Cs_night) (mr m_Cs_night) ∈ lw_g := atc (k := 2) (j := 227) rfl rfl
theorem pf_Cs_night : plainFor (my m_Cs_night) = true := by decide +kernel
theorem cw_Cs_undo : Cond.code (my m_Cs_undo) (mc m_Cs_undo) (mL m_Cs_undo) (mr m_Cs_undo) ∈ lw_g := atc (k := 2) (j := 232) rfl rfl
theorem pf_Cs_undo : plainFor (my m_Cs_undo) = true := by decide +kernel
theorem cw_Cs_noKept : Cond.code (my m_Cs_noKept) (mc m_Cs_noKept) (mL m_Cs_noKept) (mr m_Cs_noKept) ∈ lw_g := atc (k := 3) (j := 1) rfl rfl
theorem pf_Cs_noKept : plainFor (my m_Cs_noKept) = true := by decide +kernel
theorem cw_Cs_keep : Cond.code (my m_Cs_keep) (mc m_Cs_keep) (mL m_Cs_keep) (mr m_Cs_keep) ∈ lw_g := atc (k := 2) (j := 237) rfl rfl
theorem pf_Cs_keep : plainFor (my m_Cs_keep) = true := by decide +kernel
theorem cw_Cs_on : Cond.code (my m_Cs_on) (mc m_Cs_on) (mL m_Cs_on) (mr m_Cs_on) ∈ lw_g := atc (k := 3) (j := 6) rfl rfl
theorem pf_Cs_on : plainFor (my m_Cs_on) = true := by decide +kernel
theorem cw_Cs_hurt : Cond.code (my m_Cs_hurt) (mc m_Cs_hurt) (mL m_Cs_hurt) (mr m_Cs_hurt) ∈ lw_g := atc (k := 3) (j := 10) rfl rfl
theorem pf_Cs_hurt : plainFor (my m_Cs_hurt) = true := by decide +kernel
theorem cw_Cs_most : Cond.code (my m_Cs_most) (mc m_Cs_most) (mL m_Cs_most) (mr m_Cs_most) ∈ lw_g := atc (k := 3) (j := 14) rfl rfl
theorem pf_Cs_most : plainFor (my m_Cs_most) = true := by decide +kernel
theorem cw_Ja_fill2 : Cond.code (my m_Ja_fill2) (mc m_Ja_fill2) (mL m_Ja_fill2) (mr m_Ja_fill2) ∈ lw_g := atc (k := 3) (j := 30) rfl rfl
theorem pf_Ja_fill2 : plainFor (my m_Ja_fill2) = true := by decide +kernel
theorem cw_Pl_bearNothing : Cond.code (my m_Pl_bearNothing) (mc m_Pl_bearNothing) (mL m_Pl_bearNothing) (mr m_Pl_bearNothing) ∈ lw_g := atc (k := 3) (j := 26) rfl rfl
theorem pf_Pl_bearNothing : plainFor (my m_Pl_bearNothing) = true := by decide +kernel
theorem cw_Pl_relieve : Cond.code (my m_Pl_relieve) (mc m_Pl_relieve) (mL m_Pl_relieve) (mr m_Pl_relieve) ∈ lw_g := atc (k := 3) (j := 35) rfl rfl
theorem pf_Pl_relieve : plainFor (my m_Pl_relieve) = true := by decide +kernel
theorem cw_Pl_weigh : Cond.code (my m_Pl_weigh) (mc m_Pl_weigh) (mL m_Pl_weigh) (mr m_Pl_weigh) ∈ lw_g := atc (k := 3) (j := 23) rfl rfl
theorem pf_Pl_weigh : plainFor (my m_Pl_weigh) = true := by decide +kernel
theorem cw_Pl_painFor : Cond.code (my m_Pl_painFor) (mc m_Pl_painFor) (mL m_Pl_painFor) (mr m_Pl_painFor) ∈ lw_g := atc (k := 3) (j := 41) rfl rfl
theorem pf_Pl_painFor : plainFor (my m_Pl_painFor) = true := by decide +kernel
theorem cw_Pl_firstTonight : Cond.code (my m_Pl_firstTonight) (mc m_Pl_firstTonight) (mL m_Pl_firstTonight) (mr m_Pl_firstTonight) ∈ lw_g := atc (k := 3) (j := 50) rfl rfl
theorem pf_Pl_firstTonight : plainFor (my m_Pl_firstTonight) = true := by decide +kernel
theorem cw_Pl_writePlan : Cond.code (my m_Pl_writePlan) (mc m_Pl_writePlan) (mL m_Pl_writePlan) (mr m_Pl_writePlan) ∈ lw_g := atc (k := 3) (j := 46) rfl rfl
theorem pf_Pl_writePlan : plainFor (my m_Pl_writePlan) = true := by decide +kernel
theorem cw_Cs_least : Cond.code (my m_Cs_least) (mc m_Cs_least) (mL m_Cs_least) (mr m_Cs_least) ∈ lw_g := atc (k := 3) (j := 19) rfl rfl
theorem pf_Cs_least : plainFor (my m_Cs_least) = true := by decide +kernel
theorem cw_Cs_price : Cond.code (my m_Cs_price) (mc m_Cs_price) (mL m_Cs_price) (mr m_Cs_price) ∈ lw_g := atc (k := 3) (j := 54) rfl rfl
theorem pf_Cs_price : plainFor (my m_Cs_price) = true := by decide +kernel
theorem cw_Pl_weighAll : Cond.code (my m_Pl_weighAll) (mc m_Pl_weighAll) (mL m_Pl_weighAll) (mr m_Pl_weighAll) ∈ lw_g := atc (k := 3) (j := 62) rfl rfl
theorem pf_Pl_weighAll : plainFor (my m_Pl_weighAll) = true := by decide +kernel
theorem cw_Cs_late : Cond.code (my m_Cs_late) (mc m_Cs_late) (mL m_Cs_late) (mr m_Cs_late) ∈ lw_g := atc (k := 3) (j := 58) rfl rfl
theorem pf_Cs_late : plainFor (my m_Cs_late) = true := by decide +kernel
theorem cw_Cs_gainOf : Cond.code (my m_Cs_gainOf) (mc m_Cs_gainOf) (mL m_Cs_gainOf) (mr m_Cs_gainOf) ∈ lw_g := atc (k := 3) (j := 71) rfl rfl
theorem pf_Cs_gainOf : plainFor (my m_Cs_gainOf) = true := by decide +kernel
theorem cw_Cs_gain : Cond.code (my m_Cs_gain) (mc m_Cs_gain) (mL m_Cs_gain) (mr m_Cs_gain) ∈ lw_g := atc (k := 3) (j := 67) rfl rfl
theorem pf_Cs_gain : plainFor (my m_Cs_gain) = true := by decide +kernel
theorem cw_Cs_sales : Cond.code (my m_Cs_sales) (mc m_Cs_sales) (mL m_Cs_sales) (mr m_Cs_sales) ∈ lw_g := atc (k := 3) (j := 75) rfl rfl
theorem pf_Cs_sales : plainFor (my m_Cs_sales) = true := by decide +kernel
theorem cw_Cs_isIn : Cond.code (my m_Cs_isIn) (mc m_Cs_isIn) (mL m_Cs_isIn) (mr m_Cs_isIn) ∈ lw_g := atc (k := 3) (j := 86) rfl rfl
theorem pf_Cs_isIn : plainFor (my m_Cs_isIn) = true := by decide +kernel
theorem cw_St_owedBy : Cond.code (my m_St_owedBy) (mc m_St_owedBy) (mL m_St_owedBy) (mr m_St_owedBy) ∈ lw_g := atc (k := 3) (j := 83) rfl rfl
theorem pf_St_owedBy : plainFor (my m_St_owedBy) = true := by decide +kernel
theorem cw_Pl_join : Cond.code (my m_Pl_join) (mc m_Pl_join) (mL m_Pl_join) (mr m_Pl_join) ∈ lw_g := atc (k := 3) (j := 95) rfl rfl
theorem pf_Pl_join : plainFor (my m_Pl_join) = true := by decide +kernel
theorem cw_Pl_pooledPain : Cond.code (my m_Pl_pooledPain) (mc m_Pl_pooledPain) (mL m_Pl_pooledPain) (mr m_Pl_pooledPain) ∈ lw_g := atc (k := 3) (j := 99) rfl rfl
theorem pf_Pl_pooledPain : plainFor (my m_Pl_pooledPain) = true := by decide +kernel
theorem cw_Pl_painOfPool : Cond.code (my m_Pl_painOfPool) (mc m_Pl_painOfPool) (mL m_Pl_painOfPool) (mr m_Pl_painOfPool) ∈ lw_g := atc (k := 3) (j := 90) rfl rfl
theorem pf_Pl_painOfPool : plainFor (my m_Pl_painOfPool) = true := by decide +kernel
theorem cw_Pl_firstShare : Cond.code (my m_Pl_firstShare) (mc m_Pl_firstShare) (mL m_Pl_firstShare) (mr m_Pl_firstShare) ∈ lw_g := atc (k := 3) (j := 107) rfl rfl
theorem pf_Pl_firstShare : plainFor (my m_Pl_firstShare) = true := by decide +kernel
theorem cw_Pl_writeShares : Cond.code (my m_Pl_writeShares) (mc m_Pl_writeShares) (mL m_Pl_writeShares) (mr m_Pl_writeShares) ∈ lw_g := atc (k := 3) (j := 103) rfl rfl
theorem pf_Pl_writeShares : plainFor (my m_Pl_writeShares) = true := by decide +kernel
theorem cw_Cs_share : Cond.code (my m_Cs_share) (mc m_Cs_share) (mL m_Cs_share) (mr m_Cs_share) ∈ lw_g := atc (k := 3) (j := 79) rfl rfl
theorem pf_Cs_share : plainFor (my m_Cs_share) = true := by decide +kernel
theorem cw_Pl_painAlone : Cond.code (my m_Pl_painAlone) (mc m_Pl_painAlone) (mL m_Pl_painAlone) (mr m_Pl_painAlone) ∈ lw_g := atc (k := 3) (j := 115) rfl rfl
theorem pf_Pl_painAlone : plainFor (my m_Pl_painAlone) = true := by decide +kernel
theorem cw_Cs_saves : Cond.code (my m_Cs_saves) (mc m_Cs_saves) (mL m_Cs_saves) (mr m_Cs_saves) ∈ lw_g := atc (k := 3) (j := 111) rfl rfl
theorem pf_Cs_saves : plainFor (my m_Cs_saves) = true := by decide +kernel
theorem cw_Pl_poolAllSets : Cond.code (my m_Pl_poolAllSets) (mc m_Pl_poolAllSets) (mL m_Pl_poolAllSets) (mr m_Pl_poolAllSets) ∈ lw_g := atc (k := 3) (j := 124) rfl rfl
theorem pf_Pl_poolAllSets : plainFor (my m_Pl_poolAllSets) = true := by decide +kernel
theorem cw_Ji_bitCount : Cond.code (my m_Ji_bitCount) (mc m_Ji_bitCount) (mL m_Ji_bitCount) (mr m_Ji_bitCount) ∈ lw_g := atc (k := 3) (j := 128) rfl rfl
theorem pf_Ji_bitCount : plainFor (my m_Ji_bitCount) = true := by decide +kernel
theorem cw_Cs_savedBy : Cond.code (my m_Cs_savedBy) (mc m_Cs_savedBy) (mL m_Cs_savedBy) (mr m_Cs_savedBy) ∈ lw_g := atc (k := 3) (j := 137) rfl rfl
theorem pf_Cs_savedBy : plainFor (my m_Cs_savedBy) = true := by decide +kernel
theorem cw_Cs_tell : Cond.code (my m_Cs_tell) (mc m_Cs_tell) (mL m_Cs_tell) (mr m_Cs_tell) ∈ lw_g := atc (k := 3) (j := 142) rfl rfl
theorem pf_Cs_tell : plainFor (my m_Cs_tell) = true := by decide +kernel
theorem cw_Cs_part : Cond.code (my m_Cs_part) (mc m_Cs_part) (mL m_Cs_part) (mr m_Cs_part) ∈ lw_g := atc (k := 3) (j := 120) rfl rfl
theorem pf_Cs_part : plainFor (my m_Cs_part) = true := by decide +kernel
theorem cw_Ja_fillL : Cond.code (my m_Ja_fillL) (mc m_Ja_fillL) (mL m_Ja_fillL) (mr m_Ja_fillL) ∈ lw_g := atc (k := 3) (j := 153) rfl rfl
theorem pf_Ja_fillL : plainFor (my m_Ja_fillL) = true := by decide +kernel
theorem cw_Wa_begin : Cond.code (my m_Wa_begin) (mc m_Wa_begin) (mL m_Wa_begin) (mr m_Wa_begin) ∈ lw_g := atc (k := 3) (j := 150) rfl rfl
theorem pf_Wa_begin : plainFor (my m_Wa_begin) = true := by decide +kernel
theorem cw_Wa_spread : Cond.code (my m_Wa_spread) (mc m_Wa_spread) (mL m_Wa_spread) (mr m_Wa_spread) ∈ lw_g := atc (k := 3) (j := 158) rfl rfl
theorem pf_Wa_spread : plainFor (my m_Wa_spread) = true := by decide +kernel
theorem cw_Cs_sureAt : Cond.code (my m_Cs_sureAt) (mc m_Cs_sureAt) (mL m_Cs_sureAt) (mr m_Cs_sureAt) ∈ lw_g := atc (k := 3) (j := 164) rfl rfl
theorem pf_Cs_sureAt : plainFor (my m_Cs_sureAt) = true := by decide +kernel
theorem cw_Cs_ice : Cond.code (my m_Cs_ice) (mc m_Cs_ice) (mL m_Cs_ice) (mr m_Cs_ice) ∈ lw_g := atc (k := 3) (j := 146) rfl rfl
theorem pf_Cs_ice : plainFor (my m_Cs_ice) = true := by decide +kernel
theorem cw_Wa_from : Cond.code (my m_Wa_from) (mc m_Wa_from) (mL m_Wa_from) (mr m_Wa_from) ∈ lw_g := atc (k := 3) (j := 173) rfl rfl
theorem pf_Wa_from : plainFor (my m_Wa_from) = true := by decide +kernel
theorem cw_Cs_odds : Cond.code (my m_Cs_odds) (mc m_Cs_odds) (mL m_Cs_odds) (mr m_Cs_odds) ∈ lw_g := atc (k := 3) (j := 168) rfl rfl
theorem pf_Cs_odds : plainFor (my m_Cs_odds) = true := by decide +kernel
theorem cw_Cs_risk : Cond.code (my m_Cs_risk) (mc m_Cs_risk) (mL m_Cs_risk) (mr m_Cs_risk) ∈ lw_g := atc (k := 3) (j := 178) rfl rfl
theorem pf_Cs_risk : plainFor (my m_Cs_risk) = true := by decide +kernel
theorem cw_Cs_bearByLot : Cond.code (my m_Cs_bearByLot) (mc m_Cs_bearByLot) (mL m_Cs_bearByLot) (mr m_Cs_bearByLot) ∈ lw_g := atc (k := 3) (j := 189) rfl rfl
theorem pf_Cs_bearByLot : plainFor (my m_Cs_bearByLot) = true := by decide +kernel
theorem cw_Cs_lots : Cond.code (my m_Cs_lots) (mc m_Cs_lots) (mL m_Cs_lots) (mr m_Cs_lots) ∈ lw_g := atc (k := 3) (j := 182) rfl rfl
theorem pf_Cs_lots : plainFor (my m_Cs_lots) = true := by decide +kernel
theorem cw_Cs_asked : Cond.code (my m_Cs_asked) (mc m_Cs_asked) (mL m_Cs_asked) (mr m_Cs_asked) ∈ lw_g := atc (k := 3) (j := 194) rfl rfl
theorem pf_Cs_asked : plainFor (my m_Cs_asked) = true := by decide +kernel
theorem cw_Cs_upper : Cond.code (my m_Cs_upper) (mc m_Cs_upper) (mL m_Cs_upper) (mr m_Cs_upper) ∈ lw_g := atc (k := 3) (j := 198) rfl rfl
theorem pf_Cs_upper : plainFor (my m_Cs_upper) = true := by decide +kernel
theorem cw_Cs_lower : Cond.code (my m_Cs_lower) (mc m_Cs_lower) (mL m_Cs_lower) (mr m_Cs_lower) ∈ lw_g := atc (k := 3) (j := 202) rfl rfl
theorem pf_Cs_lower : plainFor (my m_Cs_lower) = true := by decide +kernel
theorem cw_St_painTillNow : Cond.code (my m_St_painTillNow) (mc m_St_painTillNow) (mL m_St_painTillNow) (mr m_St_painTillNow) ∈ lw_g := atc (k := 3) (j := 210) rfl rfl
theorem pf_St_painTillNow : plainFor (my m_St_painTillNow) = true := by decide +kernel
theorem cw_St_countOf : Cond.code (my m_St_countOf) (mc m_St_countOf) (mL m_St_countOf) (mr m_St_countOf) ∈ lw_g := atc (k := 3) (j := 214) rfl rfl
theorem pf_St_countOf : plainFor (my m_St_countOf) = true := by decide +kernel
theorem cw_Cs_thereOf : Cond.code (my m_Cs_thereOf) (mc m_Cs_thereOf) (mL m_Cs_thereOf) (mr m_Cs_thereOf) ∈ lw_g := atc (k := 3) (j := 219) rfl rfl
theorem pf_Cs_thereOf : plainFor (my m_Cs_thereOf) = true := by decide +kernel
theorem cw_Cs_keptStreets : Cond.code (my m_Cs_keptStreets) (mc m_Cs_keptStreets) (mL m_Cs_keptStreets) (mr m_Cs_keptStreets) ∈ lw_g := atc (k := 3) (j := 223) rfl rfl
theorem pf_Cs_keptStreets : plainFor (my m_Cs_keptStreets) = true := by decide +kernel
theorem cw_Cs_count : Cond.code (my m_Cs_count) (mc m_Cs_count) (mL m_Cs_count) (mr m_Cs_count) ∈ lw_g := atc (k := 3) (j := 206) rfl rfl
theorem pf_Cs_count : plainFor (my m_Cs_count) = true := by decide +kernel
theorem cw_Cs_finding : Cond.code (my m_Cs_finding) (mc m_Cs_finding) (mL m_Cs_finding) (mr m_Cs_finding) ∈ lw_g := atc (k := 3) (j := 227) rfl rfl
theorem pf_Cs_finding : plainFor (my m_Cs_finding) = true := by decide +kernel
theorem cw_Cs_findings : Cond.code (my m_Cs_findings) (mc m_Cs_findings) (mL m_Cs_findings) (mr m_Cs_findings) ∈ lw_g := atc (k := 3) (j := 231) rfl rfl
theorem pf_Cs_findings : plainFor (my m_Cs_findings) = true := by decide +kernel
theorem cw_Ro_digestOn : Cond.code (my m_Ro_digestOn) (mc m_Ro_digestOn) (mL m_Ro_digestOn) (mr m_Ro_digestOn) ∈ lw_g := atc (k := 4) (j := 2) rfl rfl
theorem pf_Ro_digestOn : plainFor (my m_Ro_digestOn) = true := by decide +kernel
theorem cw_Cs_digest : Cond.code (my m_Cs_digest) (mc m_Cs_digest) (mL m_Cs_digest) (mr m_Cs_digest) ∈ lw_g := atc (k := 3) (j := 235) rfl rfl
theorem pf_Cs_digest : plainFor (my m_Cs_digest) = true := by decide +kernel
theorem cw_Mo_finding : Cond.code (my m_Mo_finding) (mc m_Mo_finding) (mL m_Mo_finding) (mr m_Mo_finding) ∈ lw_g := atc (k := 4) (j := 127) rfl rfl
theorem pf_Mo_finding : plainFor (my m_Mo_finding) = true := by decide +kernel
theorem cw_Mo_in : Cond.code (my m_Mo_in) (mc m_Mo_in) (mL m_Mo_in) (mr m_Mo_in) ∈ lw_g := atc (k := 4) (j := 134) rfl rfl
theorem pf_Mo_in : plainFor (my m_Mo_in) = true := by decide +kernel
theorem cw_Mo_findings : Cond.code (my m_Mo_findings) (mc m_Mo_findings) (mL m_Mo_findings) (mr m_Mo_findings) ∈ lw_g := atc (k := 4) (j := 131) rfl rfl
theorem pf_Mo_findings : plainFor (my m_Mo_findings) = true := by decide +kernel
theorem cw_Mo_asked : Cond.code (my m_Mo_asked) (mc m_Mo_asked) (mL m_Mo_asked) (mr m_Mo_asked) ∈ lw_g := atc (k := 4) (j := 138) rfl rfl
theorem pf_Mo_asked : plainFor (my m_Mo_asked) = true := by decide +kernel
theorem cw_Mo_upper : Cond.code (my m_Mo_upper) (mc m_Mo_upper) (mL m_Mo_upper) (mr m_Mo_upper) ∈ lw_g := atc (k := 4) (j := 142) rfl rfl
theorem pf_Mo_upper : plainFor (my m_Mo_upper) = true := by decide +kernel
theorem cw_Mo_lower : Cond.code (my m_Mo_lower) (mc m_Mo_lower) (mL m_Mo_lower) (mr m_Mo_lower) ∈ lw_g := atc (k := 4) (j := 146) rfl rfl
theorem pf_Mo_lower : plainFor (my m_Mo_lower) = true := by decide +kernel
theorem cw_Mo_isRow : Cond.code (my m_Mo_isRow) (mc m_Mo_isRow) (mL m_Mo_isRow) (mr m_Mo_isRow) ∈ lw_g := atc (k := 4) (j := 153) rfl rfl
theorem pf_Mo_isRow : plainFor (my m_Mo_isRow) = true := by decide +kernel
theorem cw_Mo_meets : Cond.code (my m_Mo_meets) (mc m_Mo_meets) (mL m_Mo_meets) (mr m_Mo_meets) ∈ lw_g := atc (k := 4) (j := 157) rfl rfl
theorem pf_Mo_meets : plainFor (my m_Mo_meets) = true := by decide +kernel
theorem cw_Mo_row : Cond.code (my m_Mo_row) (mc m_Mo_row) (mL m_Mo_row) (mr m_Mo_row) ∈ lw_g := atc (k := 4) (j := 150) rfl rfl
theorem pf_Mo_row : plainFor (my m_Mo_row) = true := by decide +kernel
theorem cw_Mo_rowAt : Cond.code (my m_Mo_rowAt) (mc m_Mo_rowAt) (mL m_Mo_rowAt) (mr m_Mo_rowAt) ∈ lw_g := atc (k := 4) (j := 165) rfl rfl
theorem pf_Mo_rowAt : plainFor (my m_Mo_rowAt) = true := by decide +kernel
theorem cw_Mo_tells : Cond.code (my m_Mo_tells) (mc m_Mo_tells) (mL m_Mo_tells) (mr m_Mo_tells) ∈ lw_g := atc (k := 4) (j := 169) rfl rfl
theorem pf_Mo_tells : plainFor (my m_Mo_tells) = true := by decide +kernel
theorem cw_Mo_lay : Cond.code (my m_Mo_lay) (mc m_Mo_lay) (mL m_Mo_lay) (mr m_Mo_lay) ∈ lw_g := atc (k := 4) (j := 161) rfl rfl
theorem pf_Mo_lay : plainFor (my m_Mo_lay) = true := by decide +kernel
theorem cw_Mo_at : Cond.code (my m_Mo_at) (mc m_Mo_at) (mL m_Mo_at) (mr m_Mo_at) ∈ lw_g := atc (k := 4) (j := 173) rfl rfl
theorem pf_Mo_at : plainFor (my m_Mo_at) = true := by decide +kernel
theorem cw_Mo_tear : Cond.code (my m_Mo_tear) (mc m_Mo_tear) (mL m_Mo_tear) (mr m_Mo_tear) ∈ lw_g := atc (k := 4) (j := 177) rfl rfl
theorem pf_Mo_tear : plainFor (my m_Mo_tear) = true := by decide +kernel
theorem cw_Mo_copy : Cond.code (my m_Mo_copy) (mc m_Mo_copy) (mL m_Mo_copy) (mr m_Mo_copy) ∈ lw_g := atc (k := 4) (j := 181) rfl rfl
theorem pf_Mo_copy : plainFor (my m_Mo_copy) = true := by decide +kernel
theorem cw_Mo_mean : Cond.code (my m_Mo_mean) (mc m_Mo_mean) (mL m_Mo_mean) (mr m_Mo_mean) ∈ lw_g := atc (k := 4) (j := 185) rfl rfl
theorem pf_Mo_mean : plainFor (my m_Mo_mean) = true := by decide +kernel
theorem cw_Mo_isText : Cond.code (my m_Mo_isText) (mc m_Mo_isText) (mL m_Mo_isText) (mr m_Mo_isText) ∈ lw_g := atc (k := 4) (j := 192) rfl rfl
theorem pf_Mo_isText : plainFor (my m_Mo_isText) = true := by decide +kernel
theorem cw_Mo_text : Cond.code (my m_Mo_text) (mc m_Mo_text) (mL m_Mo_text) (mr m_Mo_text) ∈ lw_g := atc (k := 4) (j := 189) rfl rfl
theorem pf_Mo_text : plainFor (my m_Mo_text) = true := by decide +kernel
theorem cw_Mo_put : Cond.code (my m_Mo_put) (mc m_Mo_put) (mL m_Mo_put) (mr m_Mo_put) ∈ lw_g := atc (k := 4) (j := 196) rfl rfl
theorem pf_Mo_put : plainFor (my m_Mo_put) = true := by decide +kernel
theorem cw_Mo_byteAt : Cond.code (my m_Mo_byteAt) (mc m_Mo_byteAt) (mL m_Mo_byteAt) (mr m_Mo_byteAt) ∈ lw_g := atc (k := 4) (j := 208) rfl rfl
theorem pf_Mo_byteAt : plainFor (my m_Mo_byteAt) = true := by decide +kernel
theorem cw_Mo_isFigure : Cond.code (my m_Mo_isFigure) (mc m_Mo_isFigure) (mL m_Mo_isFigure) (mr m_Mo_isFigure) ∈ lw_g := atc (k := 4) (j := 216) rfl rfl
theorem pf_Mo_isFigure : plainFor (my m_Mo_isFigure) = true := by decide +kernel
theorem cw_Mo_readsNights : Cond.code (my m_Mo_readsNights) (mc m_Mo_readsNights) (mL m_Mo_readsNights) (mr m_Mo_readsNights) ∈ lw_g := atc (k := 4) (j := 212) rfl rfl
theorem pf_Mo_readsNights : plainFor (my m_Mo_readsNights) = true := by decide +kernel
theorem cw_Mo_kindOf : Cond.code (my m_Mo_kindOf) (mc m_Mo_kindOf) (mL m_Mo_kindOf) (mr m_Mo_kindOf) ∈ lw_g := atc (k := 4) (j := 223) rfl rfl
theorem pf_Mo_kindOf : plainFor (my m_Mo_kindOf) = true := by decide +kernel
theorem cw_Mo_readsHouse : Cond.code (my m_Mo_readsHouse) (mc m_Mo_readsHouse) (mL m_Mo_readsHouse) (mr m_Mo_readsHouse) ∈ lw_g := atc (k := 4) (j := 220) rfl rfl
theorem pf_Mo_readsHouse : plainFor (my m_Mo_readsHouse) = true := by decide +kernel
theorem cw_Mo_faultOf : Cond.code (my m_Mo_faultOf) (mc m_Mo_faultOf) (mL m_Mo_faultOf) (mr m_Mo_faultOf) ∈ lw_g := atc (k := 4) (j := 204) rfl rfl
theorem pf_Mo_faultOf : plainFor (my m_Mo_faultOf) = true := by decide +kernel
theorem cw_Mo_fault : Cond.code (my m_Mo_fault) (mc m_Mo_fault) (mL m_Mo_fault) (mr m_Mo_fault) ∈ lw_g := atc (k := 4) (j := 200) rfl rfl
theorem pf_Mo_fault : plainFor (my m_Mo_fault) = true := by decide +kernel
theorem cw_Mo_street : Cond.code (my m_Mo_street) (mc m_Mo_street) (mL m_Mo_street) (mr m_Mo_street) ∈ lw_g := atc (k := 4) (j := 227) rfl rfl
theorem pf_Mo_street : plainFor (my m_Mo_street) = true := by decide +kernel
theorem cw_Mo_isHouse : Cond.code (my m_Mo_isHouse) (mc m_Mo_isHouse) (mL m_Mo_isHouse) (mr m_Mo_isHouse) ∈ lw_g := atc (k := 4) (j := 235) rfl rfl
theorem pf_Mo_isHouse : plainFor (my m_Mo_isHouse) = true := by decide +kernel
theorem cw_Mo_isCandlemas : Cond.code (my m_Mo_isCandlemas) (mc m_Mo_isCandlemas) (mL m_Mo_isCandlemas) (mr m_Mo_isCandlemas) ∈ lw_g := atc (k := 5) (j := 7) rfl rfl
theorem pf_Mo_isCandlemas : plainFor (my m_Mo_isCandlemas) = true := by decide +kernel
theorem cw_Mo_didBear : Cond.code (my m_Mo_didBear) (mc m_Mo_didBear) (mL m_Mo_didBear) (mr m_Mo_didBear) ∈ lw_g := atc (k := 5) (j := 15) rfl rfl
theorem pf_Mo_didBear : plainFor (my m_Mo_didBear) = true := by decide +kernel
theorem cw_Mo_isMiser : Cond.code (my m_Mo_isMiser) (mc m_Mo_isMiser) (mL m_Mo_isMiser) (mr m_Mo_isMiser) ∈ lw_g := atc (k := 5) (j := 23) rfl rfl
theorem pf_Mo_isMiser : plainFor (my m_Mo_isMiser) = true := by decide +kernel
theorem cw_Mo_lesser : Cond.code (my m_Mo_lesser) (mc m_Mo_lesser) (mL m_Mo_lesser) (mr m_Mo_lesser) ∈ lw_g := atc (k := 5) (j := 26) rfl rfl
theorem pf_Mo_lesser : plainFor (my m_Mo_lesser) = true := by decide +kernel
theorem cw_Mo_canIn : Cond.code (my m_Mo_canIn) (mc m_Mo_canIn) (mL m_Mo_canIn) (mr m_Mo_canIn) ∈ lw_g := atc (k := 5) (j := 19) rfl rfl
theorem pf_Mo_canIn : plainFor (my m_Mo_canIn) = true := by decide +kernel
theorem cw_Mo_canOn : Cond.code (my m_Mo_canOn) (mc m_Mo_canOn) (mL m_Mo_canOn) (mr m_Mo_canOn) ∈ lw_g := atc (k := 5) (j := 11) rfl rfl
theorem pf_Mo_canOn : plainFor (my m_Mo_canOn) = true := by decide +kernel
theorem cw_Mo_canTonight : Cond.code (my m_Mo_canTonight) (mc m_Mo_canTonight) (mL m_Mo_canTonight) (mr m_Mo_canTonight) ∈ lw_g := atc (k := 5) (j := 3) rfl rfl
theorem pf_Mo_canTonight : plainFor (my m_Mo_canTonight) = true := by decide +kernel
theorem cw_Mo_houseTells : Cond.code (my m_Mo_houseTells) (mc m_Mo_houseTells) (mL m_Mo_houseTells) (mr m_Mo_houseTells) ∈ lw_g := atc (k := 4) (j := 239) rfl rfl
theorem pf_Mo_houseTells : plainFor (my m_Mo_houseTells) = true := by decide +kernel
theorem cw_Mo_house : Cond.code (my m_Mo_house) (mc m_Mo_house) (mL m_Mo_house) (mr m_Mo_house) ∈ lw_g := atc (k := 4) (j := 231) rfl rfl
theorem pf_Mo_house : plainFor (my m_Mo_house) = true := by decide +kernel
theorem cw_Mo_isNight : Cond.code (my m_Mo_isNight) (mc m_Mo_isNight) (mL m_Mo_isNight) (mr m_Mo_isNight) ∈ lw_g := atc (k := 5) (j := 34) rfl rfl
theorem pf_Mo_isNight : plainFor (my m_Mo_isNight) = true := by decide +kernel
theorem cw_Mo_cold : Cond.code (my m_Mo_cold) (mc m_Mo_cold) (mL m_Mo_cold) (mr m_Mo_cold) ∈ lw_g := atc (k := 5) (j := 30) rfl rfl
theorem pf_Mo_cold : plainFor (my m_Mo_cold) = true := by decide +kernel
theorem cw_Mo_squared : Cond.code (my m_Mo_squared) (mc m_Mo_squared) (mL m_Mo_squared) (mr m_Mo_squared) ∈ lw_g := atc (k := 5) (j := 49) rfl rfl
theorem pf_Mo_squared : plainFor (my m_Mo_squared) = true := by decide +kernel
theorem cw_Mo_hurtOf : Cond.code (my m_Mo_hurtOf) (mc m_Mo_hurtOf) (mL m_Mo_hurtOf) (mr m_Mo_hurtOf) ∈ lw_g := atc (k := 5) (j := 46) rfl rfl
theorem pf_Mo_hurtOf : plainFor (my m_Mo_hurtOf) = true := by decide +kernel
theorem cw_Mo_painless : Cond.code (my m_Mo_painless) (mc m_Mo_painless) (mL m_Mo_painless) (mr m_Mo_painless) ∈ lw_g := atc (k := 5) (j := 42) rfl rfl
theorem pf_Mo_painless : plainFor (my m_Mo_painless) = true := by decide +kernel
theorem cw_Mo_firstHurt : Cond.code (my m_Mo_firstHurt) (mc m_Mo_firstHurt) (mL m_Mo_firstHurt) (mr m_Mo_firstHurt) ∈ lw_g := atc (k := 5) (j := 53) rfl rfl
theorem pf_Mo_firstHurt : plainFor (my m_Mo_firstHurt) = true := by decide +kernel
theorem cw_Mo_mark : Cond.code (my m_Mo_mark) (mc m_Mo_mark) (mL m_Mo_mark) (mr m_Mo_mark) ∈ lw_g := atc (k := 5) (j := 38) rfl rfl
theorem pf_Mo_mark : plainFor (my m_Mo_mark) = true := by decide +kernel
theorem cw_Mo_wind : Cond.code (my m_Mo_wind) (mc m_Mo_wind) (mL m_Mo_wind) (mr m_Mo_wind) ∈ lw_g := atc (k := 5) (j := 57) rfl rfl
theorem pf_Mo_wind : plainFor (my m_Mo_wind) = true := by decide +kernel
theorem cw_Mo_remember : Cond.code (my m_Mo_remember) (mc m_Mo_remember) (mL m_Mo_remember) (mr m_Mo_remember) ∈ lw_g := atc (k := 5) (j := 69) rfl rfl
theorem pf_Mo_remember : plainFor (my m_Mo_remember) = true := by decide +kernel
theorem cw_Mo_bears : Cond.code (my m_Mo_bears) (mc m_Mo_bears) (mL m_Mo_bears) (mr m_Mo_bears) ∈ lw_g := atc (k := 5) (j := 65) rfl rfl
theorem pf_Mo_bears : plainFor (my m_Mo_bears) = true := by decide +kernel
theorem cw_Mo_bear : Cond.code (my m_Mo_bear) (mc m_Mo_bear) (mL m_Mo_bear) (mr m_Mo_bear) ∈ lw_g := atc (k := 5) (j := 61) rfl rfl
theorem pf_Mo_bear : plainFor (my m_Mo_bear) = true := by decide +kernel
theorem cw_Mo_sell : Cond.code (my m_Mo_sell) (mc m_Mo_sell) (mL m_Mo_sell) (mr m_Mo_sell) ∈ lw_g := atc (k := 5) (j := 73) rfl rfl
theorem pf_Mo_sell : plainFor (my m_Mo_sell) = true := by decide +kernel
theorem cw_Mo_passes : Cond.code (my m_Mo_passes) (mc m_Mo_passes) (mL m_Mo_passes) (mr m_Mo_passes) ∈ lw_g := atc (k := 5) (j := 81) rfl rfl
theorem pf_Mo_passes : plainFor (my m_Mo_passes) = true := by decide +kernel
theorem cw_Mo_night : Cond.code (my m_Mo_night) (mc m_Mo_night) (mL m_Mo_night) (mr m_Mo_night) ∈ lw_g := atc (k := 5) (j := 77) rfl rfl
theorem pf_Mo_night : plainFor (my m_Mo_night) = true := by decide +kernel
theorem cw_Mo_undo : Cond.code (my m_Mo_undo) (mc m_Mo_undo) (mL m_Mo_undo) (mr m_Mo_undo) ∈ lw_g := atc (k := 5) (j := 85) rfl rfl
theorem pf_Mo_undo : plainFor (my m_Mo_undo) = true := by decide +kernel
theorem cw_Mo_keep : Cond.code (my m_Mo_keep) (mc m_Mo_keep) (mL m_Mo_keep) (mr m_Mo_keep) ∈ lw_g := atc (k := 5) (j := 89) rfl rfl
theorem pf_Mo_keep : plainFor (my m_Mo_keep) = true := by decide +kernel
theorem cw_Mo_on : Cond.code (my m_Mo_on) (mc m_Mo_on) (mL m_Mo_on) (mr m_Mo_on) ∈ lw_g := atc (k := 5) (j := 93) rfl rfl
theorem pf_Mo_on : plainFor (my m_Mo_on) = true := by decide +kernel
theorem cw_Mo_hurt : Cond.code (my m_Mo_hurt) (mc m_Mo_hurt) (mL m_Mo_hurt) (mr m_Mo_hurt) ∈ lw_g := atc (k := 5) (j := 97) rfl rfl
theorem pf_Mo_hurt : plainFor (my m_Mo_hurt) = true := by decide +kernel
theorem cw_Mo_mostOf : Cond.code (my m_Mo_mostOf) (mc m_Mo_mostOf) (mL m_Mo_mostOf) (mr m_Mo_mostOf) ∈ lw_g := atc (k := 5) (j := 105) rfl rfl
theorem pf_Mo_mostOf : plainFor (my m_Mo_mostOf) = true := by decide +kernel
theorem cw_Mo_most : Cond.code (my m_Mo_most) (mc m_Mo_most) (mL m_Mo_most) (mr m_Mo_most) ∈ lw_g := atc (k := 5) (j := 101) rfl rfl
theorem pf_Mo_most : plainFor (my m_Mo_most) = true := by decide +kernel
theorem cw_Mo_layPlans : Cond.code (my m_Mo_layPlans) (mc m_Mo_layPlans) (mL m_Mo_layPlans) (mr m_Mo_layPlans) ∈ lw_g := atc (k := 5) (j := 113) rfl rfl
theorem pf_Mo_layPlans : plainFor (my m_Mo_layPlans) = true := by decide +kernel
theorem cw_Mo_layRow : Cond.code (my m_Mo_layRow) (mc m_Mo_layRow) (mL m_Mo_layRow) (mr m_Mo_layRow) ∈ lw_g := atc (k := 5) (j := 118) rfl rfl
theorem pf_Mo_layRow : plainFor (my m_Mo_layRow) = true := by decide +kernel
theorem cw_Mo_least : Cond.code (my m_Mo_least) (mc m_Mo_least) (mL m_Mo_least) (mr m_Mo_least) ∈ lw_g := atc (k := 5) (j := 109) rfl rfl
theorem pf_Mo_least : plainFor (my m_Mo_least) = true := by decide +kernel
theorem cw_Mo_layLeasts : Cond.code (my m_Mo_layLeasts) (mc m_Mo_layLeasts) (mL m_Mo_layLeasts) (mr m_Mo_layLeasts) ∈ lw_g := atc (k := 5) (j := 126) rfl rfl
theorem pf_Mo_layLeasts : plainFor (my m_Mo_layLeasts) = true := by decide +kernel
theorem cw_Mo_leastOf : Cond.code (my m_Mo_leastOf) (mc m_Mo_leastOf) (mL m_Mo_leastOf) (mr m_Mo_leastOf) ∈ lw_g := atc (k := 5) (j := 130) rfl rfl
theorem pf_Mo_leastOf : plainFor (my m_Mo_leastOf) = true := by decide +kernel
theorem cw_Mo_price : Cond.code (my m_Mo_price) (mc m_Mo_price) (mL m_Mo_price) (mr m_Mo_price) ∈ lw_g := atc (k := 5) (j := 122) rfl rfl
theorem pf_Mo_price : plainFor (my m_Mo_price) = true := by decide +kernel
theorem cw_Mo_late : Cond.code (my m_Mo_late) (mc m_Mo_late) (mL m_Mo_late) (mr m_Mo_late) ∈ lw_g := atc (k := 5) (j := 134) rfl rfl
theorem pf_Mo_late : plainFor (my m_Mo_late) = true := by decide +kernel
theorem cw_Mo_gainOf : Cond.code (my m_Mo_gainOf) (mc m_Mo_gainOf) (mL m_Mo_gainOf) (mr m_Mo_gainOf) ∈ lw_g := atc (k := 5) (j := 142) rfl rfl
theorem pf_Mo_gainOf : plainFor (my m_Mo_gainOf) = true := by decide +kernel
theorem cw_Mo_gain : Cond.code (my m_Mo_gain) (mc m_Mo_gain) (mL m_Mo_gain) (mr m_Mo_gain) ∈ lw_g := atc (k := 5) (j := 138) rfl rfl
theorem pf_Mo_gain : plainFor (my m_Mo_gain) = true := by decide +kernel
theorem cw_Mo_sales : Cond.code (my m_Mo_sales) (mc m_Mo_sales) (mL m_Mo_sales) (mr m_Mo_sales) ∈ lw_g := atc (k := 5) (j := 146) rfl rfl
theorem pf_Mo_sales : plainFor (my m_Mo_sales) = true := by decide +kernel
theorem cw_Mo_everybody : Cond.code (my m_Mo_everybody) (mc m_Mo_everybody) (mL m_Mo_everybody) (mr m_Mo_everybody) ∈ lw_g := atc (k := 5) (j := 154) rfl rfl
theorem pf_Mo_everybody : plainFor (my m_Mo_everybody) = true := by decide +kernel
theorem cw_Mo_has : Cond.code (my m_Mo_has) (mc m_Mo_has) (mL m_Mo_has) (mr m_Mo_has) ∈ lw_g := atc (k := 5) (j := 165) rfl rfl
theorem pf_Mo_has : plainFor (my m_Mo_has) = true := by decide +kernel
theorem cw_Mo_owedBy : Cond.code (my m_Mo_owedBy) (mc m_Mo_owedBy) (mL m_Mo_owedBy) (mr m_Mo_owedBy) ∈ lw_g := atc (k := 5) (j := 162) rfl rfl
theorem pf_Mo_owedBy : plainFor (my m_Mo_owedBy) = true := by decide +kernel
theorem cw_Mo_sharedAt : Cond.code (my m_Mo_sharedAt) (mc m_Mo_sharedAt) (mL m_Mo_sharedAt) (mr m_Mo_sharedAt) ∈ lw_g := atc (k := 5) (j := 168) rfl rfl
theorem pf_Mo_sharedAt : plainFor (my m_Mo_sharedAt) = true := by decide +kernel
theorem cw_Mo_shareOf : Cond.code (my m_Mo_shareOf) (mc m_Mo_shareOf) (mL m_Mo_shareOf) (mr m_Mo_shareOf) ∈ lw_g := atc (k := 5) (j := 158) rfl rfl
theorem pf_Mo_shareOf : plainFor (my m_Mo_shareOf) = true := by decide +kernel
theorem cw_Mo_share : Cond.code (my m_Mo_share) (mc m_Mo_share) (mL m_Mo_share) (mr m_Mo_share) ∈ lw_g := atc (k := 5) (j := 150) rfl rfl
theorem pf_Mo_share : plainFor (my m_Mo_share) = true := by decide +kernel
theorem cw_Mo_byThemselves : Cond.code (my m_Mo_byThemselves) (mc m_Mo_byThemselves) (mL m_Mo_byThemselves) (mr m_Mo_byThemselves) ∈ lw_g := atc (k := 5) (j := 180) rfl rfl
theorem pf_Mo_byThemselves : plainFor (my m_Mo_byThemselves) = true := by decide +kernel
theorem cw_Mo_savesOf : Cond.code (my m_Mo_savesOf) (mc m_Mo_savesOf) (mL m_Mo_savesOf) (mr m_Mo_savesOf) ∈ lw_g := atc (k := 5) (j := 176) rfl rfl
theorem pf_Mo_savesOf : plainFor (my m_Mo_savesOf) = true := by decide +kernel
theorem cw_Mo_saves : Cond.code (my m_Mo_saves) (mc m_Mo_saves) (mL m_Mo_saves) (mr m_Mo_saves) ∈ lw_g := atc (k := 5) (j := 172) rfl rfl
theorem pf_Mo_saves : plainFor (my m_Mo_saves) = true := by decide +kernel
theorem cw_Mo_bits : Cond.code (my m_Mo_bits) (mc m_Mo_bits) (mL m_Mo_bits) (mr m_Mo_bits) ∈ lw_g := atc (k := 5) (j := 187) rfl rfl
theorem pf_Mo_bits : plainFor (my m_Mo_bits) = true := by decide +kernel
theorem cw_Mo_times : Cond.code (my m_Mo_times) (mc m_Mo_times) (mL m_Mo_times) (mr m_Mo_times) ∈ lw_g := atc (k := 5) (j := 190) rfl rfl
theorem pf_Mo_times : plainFor (my m_Mo_times) = true := by decide +kernel
theorem cw_Mo_fraction : Cond.code (my m_Mo_fraction) (mc m_Mo_fraction) (mL m_Mo_fraction) (mr m_Mo_fraction) ∈ lw_g := atc (k := 5) (j := 194) rfl rfl
theorem pf_Mo_fraction : plainFor (my m_Mo_fraction) = true := by decide +kernel
theorem cw_Mo_part : Cond.code (my m_Mo_part) (mc m_Mo_part) (mL m_Mo_part) (mr m_Mo_part) ∈ lw_g := atc (k := 5) (j := 184) rfl rfl
theorem pf_Mo_part : plainFor (my m_Mo_part) = true := by decide +kernel
theorem cw_Mo_wayAt : Cond.code (my m_Mo_wayAt) (mc m_Mo_wayAt) (mL m_Mo_wayAt) (mr m_Mo_wayAt) ∈ lw_g := atc (k := 5) (j := 205) rfl rfl
theorem pf_Mo_wayAt : plainFor (my m_Mo_wayAt) = true := by decide +kernel
theorem cw_Mo_waysOf : Cond.code (my m_Mo_waysOf) (mc m_Mo_waysOf) (mL m_Mo_waysOf) (mr m_Mo_waysOf) ∈ lw_g := atc (k := 5) (j := 202) rfl rfl
theorem pf_Mo_waysOf : plainFor (my m_Mo_waysOf) = true := by decide +kernel
theorem cw_Mo_ice : Cond.code (my m_Mo_ice) (mc m_Mo_ice) (mL m_Mo_ice) (mr m_Mo_ice) ∈ lw_g := atc (k := 5) (j := 198) rfl rfl
theorem pf_Mo_ice : plainFor (my m_Mo_ice) = true := by decide +kernel
theorem cw_Mo_odds : Cond.code (my m_Mo_odds) (mc m_Mo_odds) (mL m_Mo_odds) (mr m_Mo_odds) ∈ lw_g := atc (k := 5) (j := 209) rfl rfl
theorem pf_Mo_odds : plainFor (my m_Mo_odds) = true := by decide +kernel
theorem cw_Mo_risk : Cond.code (my m_Mo_risk) (mc m_Mo_risk) (mL m_Mo_risk) (mr m_Mo_risk) ∈ lw_g := atc (k := 5) (j := 214) rfl rfl
theorem pf_Mo_risk : plainFor (my m_Mo_risk) = true := by decide +kernel
theorem cw_Mo_lots : Cond.code (my m_Mo_lots) (mc m_Mo_lots) (mL m_Mo_lots) (mr m_Mo_lots) ∈ lw_g := atc (k := 5) (j := 218) rfl rfl
theorem pf_Mo_lots : plainFor (my m_Mo_lots) = true := by decide +kernel
theorem cw_Mo_counted : Cond.code (my m_Mo_counted) (mc m_Mo_counted) (mL m_Mo_counted) (mr m_Mo_counted) ∈ lw_g := atc (k := 5) (j := 230) rfl rfl
theorem pf_Mo_counted : plainFor (my m_Mo_counted) = true := by decide +kernel
theorem cw_Mo_count : Cond.code (my m_Mo_count) (mc m_Mo_count) (mL m_Mo_count) (mr m_Mo_count) ∈ lw_g := atc (k := 5) (j := 226) rfl rfl
theorem pf_Mo_count : plainFor (my m_Mo_count) = true := by decide +kernel
theorem cw_Mo_mix : Cond.code (my m_Mo_mix) (mc m_Mo_mix) (mL m_Mo_mix) (mr m_Mo_mix) ∈ lw_g := atc (k := 5) (j := 239) rfl rfl
theorem pf_Mo_mix : plainFor (my m_Mo_mix) = true := by decide +kernel
theorem cw_Mo_mixStreet : Cond.code (my m_Mo_mixStreet) (mc m_Mo_mixStreet) (mL m_Mo_mixStreet) (mr m_Mo_mixStreet) ∈ lw_g := atc (k := 6) (j := 4) rfl rfl
theorem pf_Mo_mixStreet : plainFor (my m_Mo_mixStreet) = true := by decide +kernel
theorem cw_Mo_digest : Cond.code (my m_Mo_digest) (mc m_Mo_digest) (mL m_Mo_digest) (mr m_Mo_digest) ∈ lw_g := atc (k := 5) (j := 234) rfl rfl
theorem pf_Mo_digest : plainFor (my m_Mo_digest) = true := by decide +kernel
def lk_Ho : Lk := ([(9, 0, 5), (15, 0, 0), (18, 0, 1), (21, 0, 2), (27, 0, 3), (30, 0, 4)], [(24, 0, m_Ho_restart), (37, 0, m_Ho_isOf), (41, 1, m_Jm_min), (53, 1, m_Jm_max), (56, 1, m_Ho_squareAbove), (59, 0, m_Ho_painOf), (63, 0, m_Ho_mostWithoutPain), (67, 0, m_Ho_plainPainOf), (70, 0, m_Ho_leastWithPain)], [], [], [(33, 53), (47, 55), (50, 54)])
theorem lm_Ho_0 : ∀ q ∈ ([(24, 0, m_Ho_restart), (37, 0, m_Ho_isOf), (41, 1, m_Jm_min), (53, 1, m_Jm_max), (56, 1, m_Ho_squareAbove), (59, 0, m_Ho_painOf), (63, 0, m_Ho_mostWithoutPain), (67, 0, m_Ho_plainPainOf), (70, 0, m_Ho_leastWithPain)] : List (Nat × Nat × MS)), okM "ColdShares$House" q = true := okMs_ok (ps := [[(1, 3), (2, 92), (2, 93), (2, 94)], [(1, 3), (2, 168), (2, 169), (2, 170)], [(1, 8), (2, 174), (2, 175)], [(1, 8), (2, 135), (1, 169)], [(1, 3), (2, 136), (2, 137)], [(1, 3), (2, 127), (2, 128), (2, 129)], [(1, 3), (2, 195), (2, 197), (0, 15)], [(1, 3), (2, 199), (2, 200), (2, 201)], [(1, 3), (2, 203), (2, 205), (0, 16)]]) (cd_cons (Or.inr cw_Ho_restart) (cd_cons (Or.inr cw_Ho_isOf) (cd_cons (Or.inr cw_Jm_min) (cd_cons (Or.inr cw_Jm_max) (cd_cons (Or.inr cw_Ho_squareAbove) (cd_cons (Or.inr cw_Ho_painOf) (cd_cons (Or.inr cw_Ho_mostWithoutPain) (cd_cons (Or.inr cw_Ho_plainPainOf) (cd_cons (Or.inr cw_Ho_leastWithPain) (cd_nil)))))))))) (by decide +kernel)
theorem lk_Ho_ok : okL "ColdShares$House" lk_Ho := ⟨okFs_ok (ps := [(1, 51), (1, 36), (1, 39), (1, 42), (1, 44), (1, 48)]) (by decide +kernel), (okMs_app lm_Ho_0 (okMs_nil "ColdShares$House")), okIs_ok (ps := []) (by decide +kernel), okJs_ok (ps := []) (by decide +kernel), okGs_ok (ps := [(2, 172), (2, 131), (2, 133)]) (by decide +kernel)⟩
def lk_Pl : Lk := ([(11, 1, 0), (16, 1, 1), (19, 1, 2), (22, 4, 6), (32, 4, 5), (39, 4, 7), (42, 4, 1), (86, 0, 3)], [(28, 0, m_Pl_weigh), (35, 1, m_Pl_bearNothing), (47, 1, m_Ja_fill2), (53, 0, m_St_topIn), (57, 0, m_Ho_painOf), (63, 1, m_Pl_relieve), (67, 3, m0), (73, 1, m_Jm_min), (78, 0, m_Pl_firstTonight), (89, 0, m_Pl_painFor), (92, 0, m_Pl_join), (96, 0, m_Pl_pooledPain), (99, 0, m_Pl_firstShare), (82, 2, m_Cs_isIn)], [(46, 1000000)], [], [])
theorem lm_Pl_0 : ∀ q ∈ ([(28, 0, m_Pl_weigh), (35, 1, m_Pl_bearNothing), (47, 1, m_Ja_fill2), (53, 0, m_St_topIn), (57, 0, m_Ho_painOf), (63, 1, m_Pl_relieve), (67, 3, m0), (73, 1, m_Jm_min), (78, 0, m_Pl_firstTonight), (89, 0, m_Pl_painFor), (92, 0, m_Pl_join), (96, 0, m_Pl_pooledPain), (99, 0, m_Pl_firstShare), (82, 2, m_Cs_isIn)] : List (Nat × Nat × MS)), okM "ColdShares$Plans" q = true := okMs_ok (ps := [[(1, 5), (3, 63), (3, 21), (3, 22)], [(1, 5), (3, 24), (3, 25)], [(1, 10), (3, 28), (3, 29)], [(1, 2), (3, 31), (2, 161), (2, 162)], [(1, 3), (3, 32), (2, 128), (2, 129)], [(1, 5), (3, 33), (3, 34)], [(3, 37)], [(1, 8), (3, 36), (2, 175)], [(1, 5), (3, 47), (3, 49), (0, 18)], [(1, 5), (3, 116), (3, 39), (3, 40)], [(1, 5), (3, 92), (3, 94), (0, 20)], [(1, 5), (3, 96), (3, 97), (3, 98)], [(1, 5), (3, 104), (3, 106), (0, 21)], [(1, 1), (3, 91), (3, 85)]]) (cd_cons (Or.inr cw_Pl_weigh) (cd_cons (Or.inr cw_Pl_bearNothing) (cd_cons (Or.inr cw_Ja_fill2) (cd_cons (Or.inr cw_St_topIn) (cd_cons (Or.inr cw_Ho_painOf) (cd_cons (Or.inr cw_Pl_relieve) (cd_cons (Or.inl rfl) (cd_cons (Or.inr cw_Jm_min) (cd_cons (Or.inr cw_Pl_firstTonight) (cd_cons (Or.inr cw_Pl_painFor) (cd_cons (Or.inr cw_Pl_join) (cd_cons (Or.inr cw_Pl_pooledPain) (cd_cons (Or.inr cw_Pl_firstShare) (cd_cons (Or.inr cw_Cs_isIn) (cd_nil))))))))))))))) (by decide +kernel)
theorem lk_Pl_ok : okL "ColdShares$Plans" lk_Pl := ⟨okFs_ok (ps := [(1, 138), (1, 139), (1, 140), (1, 83), (1, 79), (1, 87), (1, 72), (1, 46)]) (by decide +kernel), (okMs_app lm_Pl_0 (okMs_nil "ColdShares$Plans")), okIs_ok (ps := [(3, 27)]) (by decide +kernel), okJs_ok (ps := []) (by decide +kernel), okGs_ok (ps := []) (by decide +kernel)⟩
def lk_Re : Lk := ([(12, 2, 0), (18, 2, 1), (22, 2, 2), (36, 3, 1), (41, 4, 6), (55, 4, 0), (62, 4, 5), (68, 4, 1), (82, 3, 0)], [(26, 0, m_St_clear), (29, 0, m_Re_skipBlanks), (32, 0, m_Re_readNights), (42, 0, m_Re_readHouse), (45, 0, m_St_isEmpty), (48, 0, m_Re_sign), (52, 0, m_Re_isFigure), (59, 0, m_Re_takeFigure), (65, 0, m_Re_kindOfSign), (72, 0, m_Ho_become), (78, 0, m_Ro_has)], [], [], [(85, 52)])
theorem lm_Re_0 : ∀ q ∈ ([(26, 0, m_St_clear), (29, 0, m_Re_skipBlanks), (32, 0, m_Re_readNights), (42, 0, m_Re_readHouse), (45, 0, m_St_isEmpty), (48, 0, m_Re_sign), (52, 0, m_Re_isFigure), (59, 0, m_Re_takeFigure), (65, 0, m_Re_kindOfSign), (72, 0, m_Ho_become), (78, 0, m_Ro_has)] : List (Nat × Nat × MS)), okM "ColdShares$Reader" q = true := okMs_ok (ps := [[(1, 2), (2, 53), (2, 54), (2, 55)], [(1, 4), (2, 57), (2, 59), (0, 3)], [(1, 4), (2, 66), (2, 68), (0, 5)], [(1, 4), (2, 78), (2, 80), (0, 8)], [(1, 2), (2, 96), (2, 97), (2, 98)], [(1, 4), (2, 61), (2, 63), (0, 4)], [(1, 4), (2, 70), (2, 72), (0, 6)], [(1, 4), (2, 74), (2, 76), (0, 7)], [(1, 4), (2, 82), (2, 84), (0, 9)], [(1, 3), (2, 88), (2, 89), (2, 90)], [(1, 7), (2, 65), (2, 14), (2, 15)]]) (cd_cons (Or.inr cw_St_clear) (cd_cons (Or.inr cw_Re_skipBlanks) (cd_cons (Or.inr cw_Re_readNights) (cd_cons (Or.inr cw_Re_readHouse) (cd_cons (Or.inr cw_St_isEmpty) (cd_cons (Or.inr cw_Re_sign) (cd_cons (Or.inr cw_Re_isFigure) (cd_cons (Or.inr cw_Re_takeFigure) (cd_cons (Or.inr cw_Re_kindOfSign) (cd_cons (Or.inr cw_Ho_become) (cd_cons (Or.inr cw_Ro_has) (cd_nil)))))))))))) (by decide +kernel)
theorem lk_Re_ok : okL "ColdShares$Reader" lk_Re := ⟨okFs_ok (ps := [(1, 119), (1, 121), (1, 122), (1, 175), (1, 84), (1, 69), (1, 80), (1, 73), (1, 173)]) (by decide +kernel), (okMs_app lm_Re_0 (okMs_nil "ColdShares$Reader")), okIs_ok (ps := []) (by decide +kernel), okJs_ok (ps := []) (by decide +kernel), okGs_ok (ps := [(2, 86)]) (by decide +kernel)⟩
def lk_Ro : Lk := ([(9, 3, 1), (21, 3, 0)], [(15, 1, m_Jm_max), (25, 1, m_Ja_fill4)], [], [(31, 31)], [])
theorem lm_Ro_0 : ∀ q ∈ ([(15, 1, m_Jm_max), (25, 1, m_Ja_fill4)] : List (Nat × Nat × MS)), okM "ColdShares$Row" q = true := okMs_ok (ps := [[(1, 8), (1, 168), (1, 169)], [(1, 10), (1, 235), (1, 236)]]) (cd_cons (Or.inr cw_Jm_max) (cd_cons (Or.inr cw_Ja_fill4) (cd_nil))) (by decide +kernel)
theorem lk_Ro_ok : okL "ColdShares$Row" lk_Ro := ⟨okFs_ok (ps := [(1, 174), (1, 171)]) (by decide +kernel), (okMs_app lm_Ro_0 (okMs_nil "ColdShares$Row")), okIs_ok (ps := []) (by decide +kernel), okJs_ok (ps := [(4, 3)]) (by decide +kernel), okGs_ok (ps := []) (by decide +kernel)⟩
def lk_St : Lk := ([(9, 4, 0), (17, 4, 1), (21, 4, 2), (24, 4, 3), (27, 4, 4), (30, 4, 5), (34, 4, 6), (37, 4, 7), (40, 4, 8), (50, 0, 0), (53, 0, 1), (56, 0, 2), (79, 0, 3), (82, 0, 5), (106, 0, 4)], [(44, 3, m0), (59, 0, m_Ho_become), (63, 0, m_St_replay), (67, 0, m_Ho_restart), (70, 0, m_St_perform), (73, 0, m_St_passNight), (76, 0, m_Ho_bearTonight), (85, 0, m_Ho_canAt), (89, 0, m_St_isCandlemas), (93, 0, m_St_topIn), (97, 1, m_Jm_min), (109, 0, m_Ho_isOf), (102, 2, m_Cs_isIn)], [], [], [])
theorem lm_St_0 : ∀ q ∈ ([(44, 3, m0), (59, 0, m_Ho_become), (63, 0, m_St_replay), (67, 0, m_Ho_restart), (70, 0, m_St_perform), (73, 0, m_St_passNight), (76, 0, m_Ho_bearTonight), (85, 0, m_Ho_canAt), (89, 0, m_St_isCandlemas), (93, 0, m_St_topIn), (97, 1, m_Jm_min), (109, 0, m_Ho_isOf), (102, 2, m_Cs_isIn)] : List (Nat × Nat × MS)), okM "ColdShares$Street" q = true := okMs_ok (ps := [[(2, 108)], [(1, 3), (2, 109), (2, 89), (2, 90)], [(1, 2), (2, 110), (2, 111), (2, 112)], [(1, 3), (2, 114), (2, 93), (2, 94)], [(1, 2), (2, 115), (2, 117), (0, 10)], [(1, 2), (2, 119), (2, 121), (0, 11)], [(1, 3), (2, 123), (2, 124), (2, 125)], [(1, 3), (2, 164), (2, 165), (2, 166)], [(1, 2), (2, 156), (2, 157), (2, 158)], [(1, 2), (2, 160), (2, 161), (2, 162)], [(1, 8), (2, 177), (2, 175)], [(1, 3), (3, 215), (2, 169), (2, 170)], [(1, 1), (3, 84), (3, 85)]]) (cd_cons (Or.inl rfl) (cd_cons (Or.inr cw_Ho_become) (cd_cons (Or.inr cw_St_replay) (cd_cons (Or.inr cw_Ho_restart) (cd_cons (Or.inr cw_St_perform) (cd_cons (Or.inr cw_St_passNight) (cd_cons (Or.inr cw_Ho_bearTonight) (cd_cons (Or.inr cw_Ho_canAt) (cd_cons (Or.inr cw_St_isCandlemas) (cd_cons (Or.inr cw_St_topIn) (cd_cons (Or.inr cw_Jm_min) (cd_cons (Or.inr cw_Ho_isOf) (cd_cons (Or.inr cw_Cs_isIn) (cd_nil)))))))))))))) (by decide +kernel)
theorem lk_St_ok : okL "ColdShares$Street" lk_St := ⟨okFs_ok (ps := [(1, 68), (1, 71), (1, 75), (1, 76), (1, 77), (1, 78), (1, 82), (1, 86), (1, 89), (1, 37), (1, 40), (1, 43), (1, 45), (1, 52), (1, 49)]) (by decide +kernel), (okMs_app lm_St_0 (okMs_nil "ColdShares$Street")), okIs_ok (ps := []) (by decide +kernel), okJs_ok (ps := []) (by decide +kernel), okGs_ok (ps := []) (by decide +kernel)⟩
def lk_Wa : Lk := ([(9, 5, 0), (15, 5, 1)], [(18, 1, m_Ja_fillL), (24, 3, m0), (30, 0, m_Ho_canAt), (36, 1, m_Jm_max)], [], [], [])
theorem lm_Wa_0 : ∀ q ∈ ([(18, 1, m_Ja_fillL), (24, 3, m0), (30, 0, m_Ho_canAt), (36, 1, m_Jm_max)] : List (Nat × Nat × MS)), okM "ColdShares$Ways" q = true := okMs_ok (ps := [[(1, 10), (3, 151), (3, 152)], [(3, 159)], [(1, 3), (3, 160), (2, 165), (2, 166)], [(1, 8), (3, 174), (1, 169)]]) (cd_cons (Or.inr cw_Ja_fillL) (cd_cons (Or.inl rfl) (cd_cons (Or.inr cw_Ho_canAt) (cd_cons (Or.inr cw_Jm_max) (cd_nil))))) (by decide +kernel)
theorem lk_Wa_ok : okL "ColdShares$Ways" lk_Wa := ⟨okFs_ok (ps := [(1, 154), (1, 156)]) (by decide +kernel), (okMs_app lm_Wa_0 (okMs_nil "ColdShares$Ways")), okIs_ok (ps := []) (by decide +kernel), okJs_ok (ps := []) (by decide +kernel), okGs_ok (ps := []) (by decide +kernel)⟩
def lk_Cs : Lk := ([(11, 6, 0), (15, 6, 1), (21, 6, 2), (25, 6, 3), (32, 6, 4), (39, 6, 5), (46, 6, 6), (50, 6, 7), (54, 6, 8), (58, 6, 9), (61, 6, 10), (65, 6, 11), (87, 3, 0), (98, 3, 1), (114, 2, 0), (124, 4, 6), (134, 4, 0), (137, 4, 1), (149, 4, 8), (162, 0, 3), (168, 4, 5), (171, 4, 7), (253, 5, 0), (264, 0, 5), (300, 0, 0), (303, 0, 1), (306, 0, 4)], [(71, 0, m_Cs_noRow), (75, 0, m_Cs_answer), (79, 0, m_Ro_begin), (83, 0, m_Cs_at), (90, 0, m_Ro_isMissing), (94, 0, m_Ro_has), (101, 3, m0), (107, 0, m_Cs_noText), (110, 0, m_Re_read), (117, 0, m_St_take), (121, 0, m_St_clear), (125, 0, m_Cs_noHouse), (128, 0, m_Cs_sideOf), (131, 0, m_Cs_noNight), (141, 0, m_Ho_isOf), (146, 0, m_Ho_tellsAs), (152, 0, m_St_canTonight), (155, 0, m_St_act), (159, 0, m_Ho_painOf), (165, 0, m_St_isCandlemas), (174, 0, m_St_replay), (177, 0, m_Cs_noKept), (180, 0, m_St_isEmpty), (183, 0, m_St_topIn), (186, 0, m_Pl_weigh), (190, 0, m_Pl_painFor), (194, 0, m_Pl_writePlan), (198, 0, m_Pl_weighAll), (201, 0, m_Cs_gainOf), (204, 0, m_St_owedBy), (207, 0, m_Pl_painOfPool), (211, 0, m_Pl_writeShares), (215, 0, m_Pl_painAlone), (219, 0, m_Pl_poolAllSets), (222, 1, m_Cs_isIn), (225, 1, m_Ji_bitCount), (233, 0, m_Cs_savedBy), (236, 0, m_Cs_tell), (240, 0, m_Wa_begin), (242, 0, m_Ho_canAt), (245, 0, m_Wa_spread), (249, 0, m_Cs_sureAt), (259, 0, m_Wa_from), (271, 0, m_Cs_bearByLot), (275, 0, m_St_painTillNow), (279, 0, m_St_countOf), (282, 0, m_Cs_thereOf), (286, 0, m_Cs_keptStreets), (293, 0, m_Cs_count), (296, 0, m_Ro_digestOn), (309, 0, m_Pl_pooledPain)], [(193, 1000000), (263, 2147483647)], [(257, 10), (267, 48271), (269, 2147483647), (289, 17), (291, 31), (312, 8)], [(230, 56)])
theorem lm_Cs_0 : ∀ q ∈ ([(71, 0, m_Cs_noRow), (75, 0, m_Cs_answer), (79, 0, m_Ro_begin), (83, 0, m_Cs_at), (90, 0, m_Ro_isMissing), (94, 0, m_Ro_has), (101, 3, m0), (107, 0, m_Cs_noText), (110, 0, m_Re_read), (117, 0, m_St_take), (121, 0, m_St_clear), (125, 0, m_Cs_noHouse), (128, 0, m_Cs_sideOf), (131, 0, m_Cs_noNight), (141, 0, m_Ho_isOf), (146, 0, m_Ho_tellsAs), (152, 0, m_St_canTonight), (155, 0, m_St_act), (159, 0, m_Ho_painOf), (165, 0, m_St_isCandlemas), (174, 0, m_St_replay), (177, 0, m_Cs_noKept), (180, 0, m_St_isEmpty), (183, 0, m_St_topIn)] : List (Nat × Nat × MS)), okM "ColdShares" q = true := okMs_ok (ps := [[(1, 1), (1, 223), (1, 225), (0, 0)], [(1, 1), (1, 227), (1, 229), (0, 1)], [(1, 7), (1, 231), (1, 232), (1, 233)], [(1, 1), (2, 5), (2, 6), (2, 7)], [(1, 7), (2, 9), (2, 10), (2, 11)], [(1, 7), (2, 13), (2, 14), (2, 15)], [(2, 26)], [(1, 1), (2, 37), (2, 39), (0, 2)], [(1, 4), (2, 49), (2, 50), (2, 51)], [(1, 2), (2, 104), (2, 105), (2, 106)], [(1, 2), (2, 139), (2, 54), (2, 55)], [(1, 1), (2, 144), (2, 146), (0, 12)], [(1, 1), (2, 148), (2, 150), (0, 13)], [(1, 1), (2, 182), (2, 184), (0, 14)], [(1, 3), (2, 190), (2, 169), (2, 170)], [(1, 3), (2, 191), (2, 192), (2, 193)], [(1, 2), (2, 152), (2, 153), (2, 154)], [(1, 2), (2, 215), (2, 216), (2, 217)], [(1, 3), (2, 219), (2, 128), (2, 129)], [(1, 2), (2, 228), (2, 157), (2, 158)], [(1, 2), (2, 233), (2, 111), (2, 112)], [(1, 1), (2, 238), (3, 0), (0, 17)], [(1, 2), (3, 2), (2, 97), (2, 98)], [(1, 2), (3, 15), (2, 161), (2, 162)]]) (cd_cons (Or.inr cw_Cs_noRow) (cd_cons (Or.inr cw_Cs_answer) (cd_cons (Or.inr cw_Ro_begin) (cd_cons (Or.inr cw_Cs_at) (cd_cons (Or.inr cw_Ro_isMissing) (cd_cons (Or.inr cw_Ro_has) (cd_cons (Or.inl rfl) (cd_cons (Or.inr cw_Cs_noText) (cd_cons (Or.inr cw_Re_read) (cd_cons (Or.inr cw_St_take) (cd_cons (Or.inr cw_St_clear) (cd_cons (Or.inr cw_Cs_noHouse) (cd_cons (Or.inr cw_Cs_sideOf) (cd_cons (Or.inr cw_Cs_noNight) (cd_cons (Or.inr cw_Ho_isOf) (cd_cons (Or.inr cw_Ho_tellsAs) (cd_cons (Or.inr cw_St_canTonight) (cd_cons (Or.inr cw_St_act) (cd_cons (Or.inr cw_Ho_painOf) (cd_cons (Or.inr cw_St_isCandlemas) (cd_cons (Or.inr cw_St_replay) (cd_cons (Or.inr cw_Cs_noKept) (cd_cons (Or.inr cw_St_isEmpty) (cd_cons (Or.inr cw_St_topIn) (cd_nil))))))))))))))))))))))))) (by decide +kernel)
theorem lm_Cs_1 : ∀ q ∈ ([(186, 0, m_Pl_weigh), (190, 0, m_Pl_painFor), (194, 0, m_Pl_writePlan), (198, 0, m_Pl_weighAll), (201, 0, m_Cs_gainOf), (204, 0, m_St_owedBy), (207, 0, m_Pl_painOfPool), (211, 0, m_Pl_writeShares), (215, 0, m_Pl_painAlone), (219, 0, m_Pl_poolAllSets), (222, 1, m_Cs_isIn), (225, 1, m_Ji_bitCount), (233, 0, m_Cs_savedBy), (236, 0, m_Cs_tell), (240, 0, m_Wa_begin), (242, 0, m_Ho_canAt), (245, 0, m_Wa_spread), (249, 0, m_Cs_sureAt), (259, 0, m_Wa_from), (271, 0, m_Cs_bearByLot), (275, 0, m_St_painTillNow), (279, 0, m_St_countOf), (282, 0, m_Cs_thereOf), (286, 0, m_Cs_keptStreets)] : List (Nat × Nat × MS)), okM "ColdShares" q = true := okMs_ok (ps := [[(1, 5), (3, 20), (3, 21), (3, 22)], [(1, 5), (3, 38), (3, 39), (3, 40)], [(1, 5), (3, 43), (3, 44), (3, 45)], [(1, 5), (3, 59), (3, 60), (3, 61)], [(1, 1), (3, 68), (3, 70), (0, 19)], [(1, 2), (3, 80), (3, 81), (3, 82)], [(1, 5), (3, 87), (3, 88), (3, 89)], [(1, 5), (3, 100), (3, 101), (3, 102)], [(1, 5), (3, 112), (3, 113), (3, 114)], [(1, 5), (3, 121), (3, 122), (3, 123)], [(1, 1), (3, 125), (3, 85)], [(1, 12), (3, 126), (3, 127)], [(1, 1), (3, 134), (3, 136), (0, 22)], [(1, 1), (3, 139), (3, 141), (0, 23)], [(1, 6), (3, 147), (3, 148), (3, 149)], [(1, 3), (3, 154), (2, 165), (2, 166)], [(1, 6), (3, 155), (3, 156), (3, 157)], [(1, 1), (3, 161), (3, 163), (0, 24)], [(1, 6), (3, 170), (3, 171), (3, 172)], [(1, 1), (3, 186), (3, 188), (0, 25)], [(1, 2), (3, 207), (3, 208), (3, 209)], [(1, 2), (3, 211), (3, 212), (3, 213)], [(1, 1), (3, 216), (3, 218), (0, 26)], [(1, 1), (3, 220), (3, 222), (0, 27)]]) (cd_cons (Or.inr cw_Pl_weigh) (cd_cons (Or.inr cw_Pl_painFor) (cd_cons (Or.inr cw_Pl_writePlan) (cd_cons (Or.inr cw_Pl_weighAll) (cd_cons (Or.inr cw_Cs_gainOf) (cd_cons (Or.inr cw_St_owedBy) (cd_cons (Or.inr cw_Pl_painOfPool) (cd_cons (Or.inr cw_Pl_writeShares) (cd_cons (Or.inr cw_Pl_painAlone) (cd_cons (Or.inr cw_Pl_poolAllSets) (cd_cons (Or.inr cw_Cs_isIn) (cd_cons (Or.inr cw_Ji_bitCount) (cd_cons (Or.inr cw_Cs_savedBy) (cd_cons (Or.inr cw_Cs_tell) (cd_cons (Or.inr cw_Wa_begin) (cd_cons (Or.inr cw_Ho_canAt) (cd_cons (Or.inr cw_Wa_spread) (cd_cons (Or.inr cw_Cs_sureAt) (cd_cons (Or.inr cw_Wa_from) (cd_cons (Or.inr cw_Cs_bearByLot) (cd_cons (Or.inr cw_St_painTillNow) (cd_cons (Or.inr cw_St_countOf) (cd_cons (Or.inr cw_Cs_thereOf) (cd_cons (Or.inr cw_Cs_keptStreets) (cd_nil))))))))))))))))))))))))) (by decide +kernel)
theorem lm_Cs_2 : ∀ q ∈ ([(293, 0, m_Cs_count), (296, 0, m_Ro_digestOn), (309, 0, m_Pl_pooledPain)] : List (Nat × Nat × MS)), okM "ColdShares" q = true := okMs_ok (ps := [[(1, 1), (3, 238), (3, 204), (3, 205)], [(1, 7), (3, 239), (4, 0), (4, 1)], [(1, 5), (3, 138), (3, 97), (3, 98)]]) (cd_cons (Or.inr cw_Cs_count) (cd_cons (Or.inr cw_Ro_digestOn) (cd_cons (Or.inr cw_Pl_pooledPain) (cd_nil)))) (by decide +kernel)
theorem lk_Cs_ok : okL "ColdShares" lk_Cs := ⟨okFs_ok (ps := [(1, 182), (1, 183), (1, 184), (1, 185), (1, 186), (1, 187), (1, 188), (1, 189), (1, 190), (1, 191), (1, 192), (1, 193), (1, 172), (1, 176), (1, 120), (1, 85), (1, 70), (1, 74), (1, 90), (1, 47), (1, 81), (1, 88), (1, 155), (1, 53), (1, 38), (1, 41), (1, 50)]) (by decide +kernel), (okMs_app lm_Cs_0 (okMs_app lm_Cs_1 (okMs_app lm_Cs_2 (okMs_nil "ColdShares")))), okIs_ok (ps := [(3, 42), (3, 183)]) (by decide +kernel), okJs_ok (ps := [(3, 169), (3, 184), (3, 185), (3, 236), (3, 237), (3, 190)]) (by decide +kernel), okGs_ok (ps := [(3, 132)]) (by decide +kernel)⟩
def lk_Mo : Lk := ([(7, 7, 1), (13, 7, 4), (17, 7, 5), (20, 7, 6), (23, 7, 7), (26, 7, 8), (29, 7, 9), (33, 7, 12), (36, 7, 13), (39, 7, 14), (42, 7, 18), (45, 7, 19), (48, 7, 20), (51, 7, 22), (54, 7, 23), (58, 7, 24), (61, 7, 25), (64, 7, 26), (67, 7, 27), (70, 7, 28), (73, 7, 29), (76, 7, 30), (79, 7, 31), (82, 7, 32), (85, 7, 33), (88, 7, 34), (92, 7, 35), (95, 7, 0), (103, 7, 2), (106, 7, 3), (127, 7, 15), (136, 7, 17), (142, 7, 16), (154, 7, 10), (157, 7, 11), (160, 7, 21), (290, 7, 36)], [(99, 1, m_Mo_in), (109, 1, m_Mo_isRow), (113, 0, m_Mo_meets), (117, 0, m_Mo_rowAt), (121, 0, m_Mo_tells), (124, 1, m_Mo_isText), (130, 0, m_Mo_byteAt), (133, 0, m_Mo_isFigure), (139, 1, m_Mo_kindOf), (145, 0, m_Mo_readsNights), (148, 0, m_Mo_readsHouse), (151, 0, m_Mo_faultOf), (163, 1, m_Mo_squared), (166, 0, m_Mo_isMiser), (169, 1, m_Mo_lesser), (172, 0, m_Mo_didBear), (175, 0, m_Mo_canIn), (178, 0, m_Mo_isCandlemas), (182, 0, m_Mo_canOn), (185, 0, m_Mo_canTonight), (188, 0, m_Mo_isHouse), (191, 0, m_Mo_houseTells), (194, 0, m_Mo_isNight), (197, 0, m_Mo_hurtOf), (200, 0, m_Mo_painless), (203, 0, m_Mo_firstHurt), (206, 0, m_Mo_remember), (209, 0, m_Mo_bears), (212, 0, m_Mo_passes), (216, 0, m_Mo_layPlans), (220, 0, m_Mo_mostOf), (223, 0, m_Mo_layRow), (227, 0, m_Mo_layLeasts), (230, 0, m_Mo_leastOf), (233, 0, m_Mo_gainOf), (236, 1, m_Mo_has), (240, 0, m_Mo_owedBy), (243, 1, m_Mo_sharedAt), (246, 0, m_Mo_everybody), (250, 0, m_Mo_shareOf), (253, 0, m_Mo_byThemselves), (256, 0, m_Mo_savesOf), (259, 1, m_Mo_bits), (262, 1, m_Mo_times), (265, 0, m_Mo_fraction), (269, 1, m_Mo_wayAt), (272, 0, m_Mo_waysOf), (285, 0, m_Mo_counted), (293, 0, m_Mo_mix), (301, 0, m_Mo_mixStreet)], [(215, 100000000), (278, 2147483646)], [(276, 10), (279, 48271), (281, 2147483647), (283, 8), (288, 31), (297, (-1)), (299, 17)], [])
theorem lm_Mo_0 : ∀ q ∈ ([(99, 1, m_Mo_in), (109, 1, m_Mo_isRow), (113, 0, m_Mo_meets), (117, 0, m_Mo_rowAt), (121, 0, m_Mo_tells), (124, 1, m_Mo_isText), (130, 0, m_Mo_byteAt), (133, 0, m_Mo_isFigure), (139, 1, m_Mo_kindOf), (145, 0, m_Mo_readsNights), (148, 0, m_Mo_readsHouse), (151, 0, m_Mo_faultOf), (163, 1, m_Mo_squared), (166, 0, m_Mo_isMiser), (169, 1, m_Mo_lesser), (172, 0, m_Mo_didBear), (175, 0, m_Mo_canIn), (178, 0, m_Mo_isCandlemas), (182, 0, m_Mo_canOn), (185, 0, m_Mo_canTonight), (188, 0, m_Mo_isHouse), (191, 0, m_Mo_houseTells), (194, 0, m_Mo_isNight), (197, 0, m_Mo_hurtOf)] : List (Nat × Nat × MS)), okM "ColdSharesModel" q = true := okMs_ok (ps := [[(1, 9), (4, 132), (4, 133)], [(1, 9), (4, 151), (4, 152)], [(1, 9), (4, 154), (4, 156), (0, 28)], [(1, 9), (4, 162), (4, 164), (0, 29)], [(1, 9), (4, 166), (4, 168), (0, 30)], [(1, 9), (4, 190), (4, 191)], [(1, 9), (4, 205), (4, 207), (0, 32)], [(1, 9), (4, 213), (4, 215), (0, 34)], [(1, 9), (4, 221), (4, 222)], [(1, 9), (4, 209), (4, 211), (0, 33)], [(1, 9), (4, 217), (4, 219), (0, 35)], [(1, 9), (4, 201), (4, 203), (0, 31)], [(1, 9), (5, 47), (5, 48)], [(1, 9), (5, 20), (5, 22), (0, 43)], [(1, 9), (5, 24), (5, 25)], [(1, 9), (5, 12), (5, 14), (0, 41)], [(1, 9), (5, 16), (5, 18), (0, 42)], [(1, 9), (5, 4), (5, 6), (0, 39)], [(1, 9), (5, 8), (5, 10), (0, 40)], [(1, 9), (5, 0), (5, 2), (0, 38)], [(1, 9), (4, 232), (4, 234), (0, 36)], [(1, 9), (4, 236), (4, 238), (0, 37)], [(1, 9), (5, 31), (5, 33), (0, 44)], [(1, 9), (5, 43), (5, 45), (0, 46)]]) (cd_cons (Or.inr cw_Mo_in) (cd_cons (Or.inr cw_Mo_isRow) (cd_cons (Or.inr cw_Mo_meets) (cd_cons (Or.inr cw_Mo_rowAt) (cd_cons (Or.inr cw_Mo_tells) (cd_cons (Or.inr cw_Mo_isText) (cd_cons (Or.inr cw_Mo_byteAt) (cd_cons (Or.inr cw_Mo_isFigure) (cd_cons (Or.inr cw_Mo_kindOf) (cd_cons (Or.inr cw_Mo_readsNights) (cd_cons (Or.inr cw_Mo_readsHouse) (cd_cons (Or.inr cw_Mo_faultOf) (cd_cons (Or.inr cw_Mo_squared) (cd_cons (Or.inr cw_Mo_isMiser) (cd_cons (Or.inr cw_Mo_lesser) (cd_cons (Or.inr cw_Mo_didBear) (cd_cons (Or.inr cw_Mo_canIn) (cd_cons (Or.inr cw_Mo_isCandlemas) (cd_cons (Or.inr cw_Mo_canOn) (cd_cons (Or.inr cw_Mo_canTonight) (cd_cons (Or.inr cw_Mo_isHouse) (cd_cons (Or.inr cw_Mo_houseTells) (cd_cons (Or.inr cw_Mo_isNight) (cd_cons (Or.inr cw_Mo_hurtOf) (cd_nil))))))))))))))))))))))))) (by decide +kernel)
theorem lm_Mo_1 : ∀ q ∈ ([(200, 0, m_Mo_painless), (203, 0, m_Mo_firstHurt), (206, 0, m_Mo_remember), (209, 0, m_Mo_bears), (212, 0, m_Mo_passes), (216, 0, m_Mo_layPlans), (220, 0, m_Mo_mostOf), (223, 0, m_Mo_layRow), (227, 0, m_Mo_layLeasts), (230, 0, m_Mo_leastOf), (233, 0, m_Mo_gainOf), (236, 1, m_Mo_has), (240, 0, m_Mo_owedBy), (243, 1, m_Mo_sharedAt), (246, 0, m_Mo_everybody), (250, 0, m_Mo_shareOf), (253, 0, m_Mo_byThemselves), (256, 0, m_Mo_savesOf), (259, 1, m_Mo_bits), (262, 1, m_Mo_times), (265, 0, m_Mo_fraction), (269, 1, m_Mo_wayAt), (272, 0, m_Mo_waysOf), (285, 0, m_Mo_counted)] : List (Nat × Nat × MS)), okM "ColdSharesModel" q = true := okMs_ok (ps := [[(1, 9), (5, 39), (5, 41), (0, 45)], [(1, 9), (5, 50), (5, 52), (0, 47)], [(1, 9), (5, 66), (5, 68), (0, 49)], [(1, 9), (5, 62), (5, 64), (0, 48)], [(1, 9), (5, 78), (5, 80), (0, 50)], [(1, 9), (5, 110), (5, 112), (0, 52)], [(1, 9), (5, 102), (5, 104), (0, 51)], [(1, 9), (5, 115), (5, 117), (0, 53)], [(1, 9), (5, 123), (5, 125), (0, 54)], [(1, 9), (5, 127), (5, 129), (0, 55)], [(1, 9), (5, 139), (5, 141), (0, 56)], [(1, 9), (5, 163), (5, 164)], [(1, 9), (5, 159), (5, 161), (0, 59)], [(1, 9), (5, 166), (5, 167)], [(1, 9), (5, 151), (5, 153), (0, 57)], [(1, 9), (5, 155), (5, 157), (0, 58)], [(1, 9), (5, 177), (5, 179), (0, 61)], [(1, 9), (5, 173), (5, 175), (0, 60)], [(1, 9), (5, 185), (5, 186)], [(1, 9), (5, 188), (5, 189)], [(1, 9), (5, 191), (5, 193), (0, 62)], [(1, 9), (5, 203), (5, 204)], [(1, 9), (5, 199), (5, 201), (0, 63)], [(1, 9), (5, 227), (5, 229), (0, 64)]]) (cd_cons (Or.inr cw_Mo_painless) (cd_cons (Or.inr cw_Mo_firstHurt) (cd_cons (Or.inr cw_Mo_remember) (cd_cons (Or.inr cw_Mo_bears) (cd_cons (Or.inr cw_Mo_passes) (cd_cons (Or.inr cw_Mo_layPlans) (cd_cons (Or.inr cw_Mo_mostOf) (cd_cons (Or.inr cw_Mo_layRow) (cd_cons (Or.inr cw_Mo_layLeasts) (cd_cons (Or.inr cw_Mo_leastOf) (cd_cons (Or.inr cw_Mo_gainOf) (cd_cons (Or.inr cw_Mo_has) (cd_cons (Or.inr cw_Mo_owedBy) (cd_cons (Or.inr cw_Mo_sharedAt) (cd_cons (Or.inr cw_Mo_everybody) (cd_cons (Or.inr cw_Mo_shareOf) (cd_cons (Or.inr cw_Mo_byThemselves) (cd_cons (Or.inr cw_Mo_savesOf) (cd_cons (Or.inr cw_Mo_bits) (cd_cons (Or.inr cw_Mo_times) (cd_cons (Or.inr cw_Mo_fraction) (cd_cons (Or.inr cw_Mo_wayAt) (cd_cons (Or.inr cw_Mo_waysOf) (cd_cons (Or.inr cw_Mo_counted) (cd_nil))))))))))))))))))))))))) (by decide +kernel)
theorem lm_Mo_2 : ∀ q ∈ ([(293, 0, m_Mo_mix), (301, 0, m_Mo_mixStreet)] : List (Nat × Nat × MS)), okM "ColdSharesModel" q = true := okMs_ok (ps := [[(1, 9), (5, 236), (5, 238), (0, 65)], [(1, 9), (6, 1), (6, 3), (0, 66)]]) (cd_cons (Or.inr cw_Mo_mix) (cd_cons (Or.inr cw_Mo_mixStreet) (cd_nil))) (by decide +kernel)
theorem lk_Mo_ok : okL "ColdSharesModel" lk_Mo := ⟨okFs_ok (ps := [(4, 11), (4, 14), (4, 15), (4, 16), (4, 17), (4, 18), (4, 19), (4, 22), (4, 23), (4, 24), (4, 28), (4, 29), (4, 30), (4, 32), (4, 33), (4, 34), (4, 35), (4, 36), (4, 37), (4, 38), (4, 39), (4, 40), (4, 41), (4, 42), (4, 43), (4, 44), (4, 45), (4, 10), (4, 12), (4, 13), (4, 25), (4, 27), (4, 26), (4, 20), (4, 21), (4, 31), (4, 46)]) (by decide +kernel), (okMs_app lm_Mo_0 (okMs_app lm_Mo_1 (okMs_app lm_Mo_2 (okMs_nil "ColdSharesModel")))), okIs_ok (ps := [(5, 114), (5, 219)]) (by decide +kernel), okJs_ok (ps := [(5, 210), (5, 220), (5, 221), (5, 222), (6, 0), (6, 5), (5, 235)]) (by decide +kernel), okGs_ok (ps := []) (by decide +kernel)⟩
def lk_Jm : Lk := ([], [], [], [], [])
theorem lk_Jm_ok : okL "java/lang/Math" lk_Jm := ⟨okFs_ok (ps := []) (by decide +kernel), (okMs_nil "java/lang/Math"), okIs_ok (ps := []) (by decide +kernel), okJs_ok (ps := []) (by decide +kernel), okGs_ok (ps := []) (by decide +kernel)⟩
def lk_Ja : Lk := ([], [(13, 1, m_Ja_rangeCheck)], [], [], [])
theorem lm_Ja_0 : ∀ q ∈ ([(13, 1, m_Ja_rangeCheck)] : List (Nat × Nat × MS)), okM "java/util/Arrays" q = true := okMs_ok (ps := [[(1, 10), (1, 238), (1, 239)]]) (cd_cons (Or.inr cw_Ja_rangeCheck) (cd_nil)) (by decide +kernel)
theorem lk_Ja_ok : okL "java/util/Arrays" lk_Ja := ⟨okFs_ok (ps := []) (by decide +kernel), (okMs_app lm_Ja_0 (okMs_nil "java/util/Arrays")), okIs_ok (ps := []) (by decide +kernel), okJs_ok (ps := []) (by decide +kernel), okGs_ok (ps := []) (by decide +kernel)⟩
def lk_Ji : Lk := ([], [], [(265, 1431655765), (266, 858993459), (267, 252645135)], [], [])
theorem lk_Ji_ok : okL "java/lang/Integer" lk_Ji := ⟨okFs_ok (ps := []) (by decide +kernel), (okMs_nil "java/lang/Integer"), okIs_ok (ps := [(3, 129), (3, 130), (3, 131)]) (by decide +kernel), okJs_ok (ps := []) (by decide +kernel), okGs_ok (ps := []) (by decide +kernel)⟩
def lk_La : Lk := ([], [(13, 0, m_Cs_row), (17, 0, m_Mo_row), (18, 0, m_Cs_lay), (22, 0, m_Mo_lay), (23, 0, m_Cs_at), (26, 0, m_Mo_at), (27, 0, m_Cs_tear), (31, 0, m_Mo_tear), (32, 0, m_Cs_copy), (36, 0, m_Mo_copy), (37, 0, m_Cs_mean), (40, 0, m_Mo_mean), (41, 0, m_Cs_text), (44, 0, m_Mo_text), (45, 0, m_Cs_put), (48, 0, m_Mo_put), (49, 0, m_Cs_fault), (52, 0, m_Mo_fault), (53, 0, m_Cs_street), (56, 0, m_Mo_street), (57, 0, m_Cs_house), (60, 0, m_Mo_house), (61, 0, m_Cs_cold), (64, 0, m_Mo_cold), (65, 0, m_Cs_mark), (68, 0, m_Mo_mark), (69, 0, m_Cs_wind), (72, 0, m_Mo_wind), (73, 0, m_Cs_bear), (76, 0, m_Mo_bear), (77, 0, m_Cs_sell), (80, 0, m_Mo_sell), (81, 0, m_Cs_night), (85, 0, m_Mo_night), (86, 0, m_Cs_undo), (89, 0, m_Mo_undo), (90, 0, m_Cs_keep), (93, 0, m_Mo_keep), (94, 0, m_Cs_on), (97, 0, m_Mo_on), (98, 0, m_Cs_hurt), (101, 0, m_Mo_hurt), (102, 0, m_Cs_most), (105, 0, m_Mo_most), (106, 0, m_Cs_least), (109, 0, m_Mo_least), (110, 0, m_Cs_price), (113, 0, m_Mo_price), (114, 0, m_Cs_late), (117, 0, m_Mo_late), (118, 0, m_Cs_gain), (121, 0, m_Mo_gain), (122, 0, m_Cs_sales), (125, 0, m_Mo_sales), (126, 0, m_Cs_share), (129, 0, m_Mo_share), (130, 0, m_Cs_saves), (133, 0, m_Mo_saves), (134, 0, m_Cs_part), (137, 0, m_Mo_part), (138, 0, m_Cs_ice), (141, 0, m_Mo_ice), (142, 0, m_Cs_odds), (145, 0, m_Mo_odds), (146, 0, m_Cs_risk), (149, 0, m_Mo_risk), (150, 0, m_Cs_lots), (153, 0, m_Mo_lots), (154, 0, m_Cs_asked), (157, 0, m_Mo_asked), (158, 0, m_Cs_upper), (162, 0, m_Mo_upper), (163, 0, m_Cs_lower), (166, 0, m_Mo_lower), (167, 0, m_Cs_count), (170, 0, m_Mo_count), (171, 0, m_Cs_finding), (174, 0, m_Mo_finding), (175, 0, m_Cs_findings), (178, 0, m_Mo_findings), (179, 0, m_Cs_digest), (182, 0, m_Mo_digest)], [], [], [])
theorem lm_La_0 : ∀ q ∈ ([(13, 0, m_Cs_row), (17, 0, m_Mo_row), (18, 0, m_Cs_lay), (22, 0, m_Mo_lay), (23, 0, m_Cs_at), (26, 0, m_Mo_at), (27, 0, m_Cs_tear), (31, 0, m_Mo_tear), (32, 0, m_Cs_copy), (36, 0, m_Mo_copy), (37, 0, m_Cs_mean), (40, 0, m_Mo_mean), (41, 0, m_Cs_text), (44, 0, m_Mo_text), (45, 0, m_Cs_put), (48, 0, m_Mo_put), (49, 0, m_Cs_fault), (52, 0, m_Mo_fault), (53, 0, m_Cs_street), (56, 0, m_Mo_street), (57, 0, m_Cs_house), (60, 0, m_Mo_house), (61, 0, m_Cs_cold), (64, 0, m_Mo_cold)] : List (Nat × Nat × MS)), okM "ColdSharesLaw" q = true := okMs_ok (ps := [[(1, 1), (1, 219), (1, 220), (1, 221)], [(1, 9), (4, 147), (4, 148), (4, 149)], [(1, 1), (2, 1), (2, 2), (2, 3)], [(1, 9), (4, 158), (4, 159), (4, 160)], [(1, 1), (2, 17), (2, 6), (2, 7)], [(1, 9), (4, 170), (4, 171), (4, 172)], [(1, 1), (2, 18), (2, 19), (2, 20)], [(1, 9), (4, 174), (4, 175), (4, 176)], [(1, 1), (2, 22), (2, 23), (2, 24)], [(1, 9), (4, 178), (4, 179), (4, 180)], [(1, 1), (2, 29), (2, 30), (2, 31)], [(1, 9), (4, 182), (4, 183), (4, 184)], [(1, 1), (2, 33), (2, 34), (2, 35)], [(1, 9), (4, 186), (4, 187), (4, 188)], [(1, 1), (2, 41), (2, 42), (2, 43)], [(1, 9), (4, 193), (4, 194), (4, 195)], [(1, 1), (2, 45), (2, 46), (2, 47)], [(1, 9), (4, 197), (4, 198), (4, 199)], [(1, 1), (2, 100), (2, 101), (2, 102)], [(1, 9), (4, 224), (4, 225), (4, 226)], [(1, 1), (2, 140), (2, 141), (2, 142)], [(1, 9), (4, 228), (4, 229), (4, 230)], [(1, 1), (2, 178), (2, 179), (2, 180)], [(1, 9), (5, 27), (5, 28), (5, 29)]]) (cd_cons (Or.inr cw_Cs_row) (cd_cons (Or.inr cw_Mo_row) (cd_cons (Or.inr cw_Cs_lay) (cd_cons (Or.inr cw_Mo_lay) (cd_cons (Or.inr cw_Cs_at) (cd_cons (Or.inr cw_Mo_at) (cd_cons (Or.inr cw_Cs_tear) (cd_cons (Or.inr cw_Mo_tear) (cd_cons (Or.inr cw_Cs_copy) (cd_cons (Or.inr cw_Mo_copy) (cd_cons (Or.inr cw_Cs_mean) (cd_cons (Or.inr cw_Mo_mean) (cd_cons (Or.inr cw_Cs_text) (cd_cons (Or.inr cw_Mo_text) (cd_cons (Or.inr cw_Cs_put) (cd_cons (Or.inr cw_Mo_put) (cd_cons (Or.inr cw_Cs_fault) (cd_cons (Or.inr cw_Mo_fault) (cd_cons (Or.inr cw_Cs_street) (cd_cons (Or.inr cw_Mo_street) (cd_cons (Or.inr cw_Cs_house) (cd_cons (Or.inr cw_Mo_house) (cd_cons (Or.inr cw_Cs_cold) (cd_cons (Or.inr cw_Mo_cold) (cd_nil))))))))))))))))))))))))) (by decide +kernel)
theorem lm_La_1 : ∀ q ∈ ([(65, 0, m_Cs_mark), (68, 0, m_Mo_mark), (69, 0, m_Cs_wind), (72, 0, m_Mo_wind), (73, 0, m_Cs_bear), (76, 0, m_Mo_bear), (77, 0, m_Cs_sell), (80, 0, m_Mo_sell), (81, 0, m_Cs_night), (85, 0, m_Mo_night), (86, 0, m_Cs_undo), (89, 0, m_Mo_undo), (90, 0, m_Cs_keep), (93, 0, m_Mo_keep), (94, 0, m_Cs_on), (97, 0, m_Mo_on), (98, 0, m_Cs_hurt), (101, 0, m_Mo_hurt), (102, 0, m_Cs_most), (105, 0, m_Mo_most), (106, 0, m_Cs_least), (109, 0, m_Mo_least), (110, 0, m_Cs_price), (113, 0, m_Mo_price)] : List (Nat × Nat × MS)), okM "ColdSharesLaw" q = true := okMs_ok (ps := [[(1, 1), (2, 186), (2, 187), (2, 188)], [(1, 9), (5, 35), (5, 36), (5, 37)], [(1, 1), (2, 207), (2, 208), (2, 209)], [(1, 9), (5, 54), (5, 55), (5, 56)], [(1, 1), (2, 211), (2, 212), (2, 213)], [(1, 9), (5, 58), (5, 59), (5, 60)], [(1, 1), (2, 220), (2, 221), (2, 222)], [(1, 9), (5, 70), (5, 71), (5, 72)], [(1, 1), (2, 224), (2, 225), (2, 226)], [(1, 9), (5, 74), (5, 75), (5, 76)], [(1, 1), (2, 229), (2, 230), (2, 231)], [(1, 9), (5, 82), (5, 83), (5, 84)], [(1, 1), (2, 234), (2, 235), (2, 236)], [(1, 9), (5, 86), (5, 87), (5, 88)], [(1, 1), (3, 3), (3, 4), (3, 5)], [(1, 9), (5, 90), (5, 91), (5, 92)], [(1, 1), (3, 7), (3, 8), (3, 9)], [(1, 9), (5, 94), (5, 95), (5, 96)], [(1, 1), (3, 11), (3, 12), (3, 13)], [(1, 9), (5, 98), (5, 99), (5, 100)], [(1, 1), (3, 16), (3, 17), (3, 18)], [(1, 9), (5, 106), (5, 107), (5, 108)], [(1, 1), (3, 51), (3, 52), (3, 53)], [(1, 9), (5, 119), (5, 120), (5, 121)]]) (cd_cons (Or.inr cw_Cs_mark) (cd_cons (Or.inr cw_Mo_mark) (cd_cons (Or.inr cw_Cs_wind) (cd_cons (Or.inr cw_Mo_wind) (cd_cons (Or.inr cw_Cs_bear) (cd_cons (Or.inr cw_Mo_bear) (cd_cons (Or.inr cw_Cs_sell) (cd_cons (Or.inr cw_Mo_sell) (cd_cons (Or.inr cw_Cs_night) (cd_cons (Or.inr cw_Mo_night) (cd_cons (Or.inr cw_Cs_undo) (cd_cons (Or.inr cw_Mo_undo) (cd_cons (Or.inr cw_Cs_keep) (cd_cons (Or.inr cw_Mo_keep) (cd_cons (Or.inr cw_Cs_on) (cd_cons (Or.inr cw_Mo_on) (cd_cons (Or.inr cw_Cs_hurt) (cd_cons (Or.inr cw_Mo_hurt) (cd_cons (Or.inr cw_Cs_most) (cd_cons (Or.inr cw_Mo_most) (cd_cons (Or.inr cw_Cs_least) (cd_cons (Or.inr cw_Mo_least) (cd_cons (Or.inr cw_Cs_price) (cd_cons (Or.inr cw_Mo_price) (cd_nil))))))))))))))))))))))))) (by decide +kernel)
theorem lm_La_2 : ∀ q ∈ ([(114, 0, m_Cs_late), (117, 0, m_Mo_late), (118, 0, m_Cs_gain), (121, 0, m_Mo_gain), (122, 0, m_Cs_sales), (125, 0, m_Mo_sales), (126, 0, m_Cs_share), (129, 0, m_Mo_share), (130, 0, m_Cs_saves), (133, 0, m_Mo_saves), (134, 0, m_Cs_part), (137, 0, m_Mo_part), (138, 0, m_Cs_ice), (141, 0, m_Mo_ice), (142, 0, m_Cs_odds), (145, 0, m_Mo_odds), (146, 0, m_Cs_risk), (149, 0, m_Mo_risk), (150, 0, m_Cs_lots), (153, 0, m_Mo_lots), (154, 0, m_Cs_asked), (157, 0, m_Mo_asked), (158, 0, m_Cs_upper), (162, 0, m_Mo_upper)] : List (Nat × Nat × MS)), okM "ColdSharesLaw" q = true := okMs_ok (ps := [[(1, 1), (3, 55), (3, 56), (3, 57)], [(1, 9), (5, 131), (5, 132), (5, 133)], [(1, 1), (3, 64), (3, 65), (3, 66)], [(1, 9), (5, 135), (5, 136), (5, 137)], [(1, 1), (3, 72), (3, 73), (3, 74)], [(1, 9), (5, 143), (5, 144), (5, 145)], [(1, 1), (3, 76), (3, 77), (3, 78)], [(1, 9), (5, 147), (5, 148), (5, 149)], [(1, 1), (3, 108), (3, 109), (3, 110)], [(1, 9), (5, 169), (5, 170), (5, 171)], [(1, 1), (3, 117), (3, 118), (3, 119)], [(1, 9), (5, 181), (5, 182), (5, 183)], [(1, 1), (3, 143), (3, 144), (3, 145)], [(1, 9), (5, 195), (5, 196), (5, 197)], [(1, 1), (3, 165), (3, 166), (3, 167)], [(1, 9), (5, 206), (5, 207), (5, 208)], [(1, 1), (3, 175), (3, 176), (3, 177)], [(1, 9), (5, 211), (5, 212), (5, 213)], [(1, 1), (3, 179), (3, 180), (3, 181)], [(1, 9), (5, 215), (5, 216), (5, 217)], [(1, 1), (3, 191), (3, 192), (3, 193)], [(1, 9), (4, 135), (4, 136), (4, 137)], [(1, 1), (3, 195), (3, 196), (3, 197)], [(1, 9), (4, 139), (4, 140), (4, 141)]]) (cd_cons (Or.inr cw_Cs_late) (cd_cons (Or.inr cw_Mo_late) (cd_cons (Or.inr cw_Cs_gain) (cd_cons (Or.inr cw_Mo_gain) (cd_cons (Or.inr cw_Cs_sales) (cd_cons (Or.inr cw_Mo_sales) (cd_cons (Or.inr cw_Cs_share) (cd_cons (Or.inr cw_Mo_share) (cd_cons (Or.inr cw_Cs_saves) (cd_cons (Or.inr cw_Mo_saves) (cd_cons (Or.inr cw_Cs_part) (cd_cons (Or.inr cw_Mo_part) (cd_cons (Or.inr cw_Cs_ice) (cd_cons (Or.inr cw_Mo_ice) (cd_cons (Or.inr cw_Cs_odds) (cd_cons (Or.inr cw_Mo_odds) (cd_cons (Or.inr cw_Cs_risk) (cd_cons (Or.inr cw_Mo_risk) (cd_cons (Or.inr cw_Cs_lots) (cd_cons (Or.inr cw_Mo_lots) (cd_cons (Or.inr cw_Cs_asked) (cd_cons (Or.inr cw_Mo_asked) (cd_cons (Or.inr cw_Cs_upper) (cd_cons (Or.inr cw_Mo_upper) (cd_nil))))))))))))))))))))))))) (by decide +kernel)
theorem lm_La_3 : ∀ q ∈ ([(163, 0, m_Cs_lower), (166, 0, m_Mo_lower), (167, 0, m_Cs_count), (170, 0, m_Mo_count), (171, 0, m_Cs_finding), (174, 0, m_Mo_finding), (175, 0, m_Cs_findings), (178, 0, m_Mo_findings), (179, 0, m_Cs_digest), (182, 0, m_Mo_digest)] : List (Nat × Nat × MS)), okM "ColdSharesLaw" q = true := okMs_ok (ps := [[(1, 1), (3, 199), (3, 200), (3, 201)], [(1, 9), (4, 143), (4, 144), (4, 145)], [(1, 1), (3, 203), (3, 204), (3, 205)], [(1, 9), (5, 223), (5, 224), (5, 225)], [(1, 1), (3, 224), (3, 225), (3, 226)], [(1, 9), (4, 124), (4, 125), (4, 126)], [(1, 1), (3, 228), (3, 229), (3, 230)], [(1, 9), (4, 128), (4, 129), (4, 130)], [(1, 1), (3, 232), (3, 233), (3, 234)], [(1, 9), (5, 231), (5, 232), (5, 233)]]) (cd_cons (Or.inr cw_Cs_lower) (cd_cons (Or.inr cw_Mo_lower) (cd_cons (Or.inr cw_Cs_count) (cd_cons (Or.inr cw_Mo_count) (cd_cons (Or.inr cw_Cs_finding) (cd_cons (Or.inr cw_Mo_finding) (cd_cons (Or.inr cw_Cs_findings) (cd_cons (Or.inr cw_Mo_findings) (cd_cons (Or.inr cw_Cs_digest) (cd_cons (Or.inr cw_Mo_digest) (cd_nil))))))))))) (by decide +kernel)
theorem lk_La_ok : okL "ColdSharesLaw" lk_La := ⟨okFs_ok (ps := []) (by decide +kernel), (okMs_app lm_La_0 (okMs_app lm_La_1 (okMs_app lm_La_2 (okMs_app lm_La_3 (okMs_nil "ColdSharesLaw"))))), okIs_ok (ps := []) (by decide +kernel), okJs_ok (ps := []) (by decide +kernel), okGs_ok (ps := []) (by decide +kernel)⟩
