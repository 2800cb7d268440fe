/-! ===== names: methods, words by their places, links ===== -/
def m_Sp_init : am_MT := (⟨"ShakePictures", "<init>", "()V"⟩, prog_1_method_1_code, 4, none, { frames := 3, cells := 146, slots := 2075, locals := 67 })
def m_Gr_init : am_MT := (⟨"ShakePictures$Ground", "<init>", "()V"⟩, prog_6_method_1_code, 1, none, { frames := 1, cells := 6, slots := 136, locals := 24 })
def m_Gr_lay : am_MT := (⟨"ShakePictures$Ground", "lay", "(II)V"⟩, prog_6_method_2_code, 7, none, { frames := 1, cells := 0, slots := 0, locals := 23 })
def m_Ar_fill : am_MT := (⟨"java/util/Arrays", "fill", "([II)V"⟩, prog_20_method_103_code, 4, none, { frames := 0, cells := 0, slots := 0, locals := 0 })
def m_Bo_init : am_MT := (⟨"ShakePictures$Book", "<init>", "()V"⟩, prog_3_method_1_code, 1, none, { frames := 1, cells := 11, slots := 218, locals := 24 })
def m_Ra_init : am_MT := (⟨"ShakePictures$Rays", "<init>", "(LShakePictures$Ground;LShakePictures$Book;)V"⟩, prog_9_method_1_code, 3, none, { frames := 1, cells := 14, slots := 120, locals := 24 })
def m_Ft_init : am_MT := (⟨"ShakePictures$Fitter", "<init>", "(LShakePictures$Ground;LShakePictures$Book;)V"⟩, prog_5_method_1_code, 3, none, { frames := 1, cells := 67, slots := 951, locals := 24 })
def m_Pr_init : am_MT := (⟨"ShakePictures$Press", "<init>", "(LShakePictures$Rays;LShakePictures$Book;)V"⟩, prog_8_method_1_code, 3, none, { frames := 1, cells := 4, slots := 40, locals := 24 })
def m_Re_init : am_MT := (⟨"ShakePictures$Resolver", "<init>", "(LShakePictures$Ground;LShakePictures$Book;LShakePictures$Rays;)V"⟩, prog_10_method_1_code, 4, none, { frames := 2, cells := 25, slots := 192, locals := 44 })
def m_Ba_init : am_MT := (⟨"ShakePictures$Basis", "<init>", "()V"⟩, prog_2_method_1_code, 1, none, { frames := 1, cells := 11, slots := 88, locals := 24 })
def m_Fi_init : am_MT := (⟨"ShakePictures$Finder", "<init>", "(LShakePictures$Ground;LShakePictures$Book;)V"⟩, prog_4_method_1_code, 3, none, { frames := 1, cells := 2, slots := 24, locals := 24 })
def m_Sc_init : am_MT := (⟨"ShakePictures$Script", "<init>", "(LShakePictures$Ground;LShakePictures$Book;)V"⟩, prog_11_method_1_code, 3, none, { frames := 1, cells := 4, slots := 280, locals := 24 })
def m_Me_init : am_MT := (⟨"ShakePictures$Memory", "<init>", "(LShakePictures$Ground;LShakePictures$Book;)V"⟩, prog_7_method_1_code, 3, none, { frames := 1, cells := 4, slots := 35, locals := 24 })
def m_Sp_ground : am_MT := (⟨"ShakePictures", "ground", "(II)I"⟩, prog_1_method_2_code, 3, some .int, { frames := 2, cells := 0, slots := 0, locals := 49 })
def m_Sp_isWithin : am_MT := (⟨"ShakePictures", "isWithin", "(III)Z"⟩, prog_1_method_42_code, 3, some .boolean, { frames := 0, cells := 0, slots := 0, locals := 0 })
def m_Bo_forgetAll : am_MT := (⟨"ShakePictures$Book", "forgetAll", "()V"⟩, prog_3_method_2_code, 1, none, { frames := 0, cells := 0, slots := 0, locals := 0 })
def m_Sp_ratio : am_MT := (⟨"ShakePictures", "ratio", "(I)I"⟩, prog_1_method_3_code, 3, some .int, { frames := 1, cells := 0, slots := 0, locals := 22 })
def m_Sp_slow : am_MT := (⟨"ShakePictures", "slow", "(II)I"⟩, prog_1_method_4_code, 4, some .int, { frames := 2, cells := 0, slots := 0, locals := 43 })
def m_Sp_isBlock : am_MT := (⟨"ShakePictures", "isBlock", "(I)Z"⟩, prog_1_method_36_code, 2, some .boolean, { frames := 1, cells := 0, slots := 0, locals := 22 })
def m_Sp_split : am_MT := (⟨"ShakePictures", "split", "(II)I"⟩, prog_1_method_5_code, 3, some .int, { frames := 2, cells := 0, slots := 0, locals := 48 })
def m_Gr_allCells : am_MT := (⟨"ShakePictures$Ground", "allCells", "()I"⟩, prog_6_method_3_code, 1, some .int, { frames := 0, cells := 0, slots := 0, locals := 0 })
def m_Gr_splitBlock : am_MT := (⟨"ShakePictures$Ground", "splitBlock", "(II)I"⟩, prog_6_method_7_code, 5, some .int, { frames := 1, cells := 0, slots := 0, locals := 24 })
def m_Gr_cellsOf : am_MT := (⟨"ShakePictures$Ground", "cellsOf", "(I)I"⟩, prog_6_method_4_code, 4, some .int, { frames := 0, cells := 0, slots := 0, locals := 0 })
def m_Gr_moveCells : am_MT := (⟨"ShakePictures$Ground", "moveCells", "(III)V"⟩, prog_6_method_8_code, 5, none, { frames := 0, cells := 0, slots := 0, locals := 0 })
def m_Sp_join : am_MT := (⟨"ShakePictures", "join", "(II)I"⟩, prog_1_method_6_code, 3, some .int, { frames := 2, cells := 0, slots := 0, locals := 44 })
def m_Gr_cellsIn : am_MT := (⟨"ShakePictures$Ground", "cellsIn", "(I)I"⟩, prog_6_method_5_code, 2, some .int, { frames := 1, cells := 0, slots := 0, locals := 23 })
def m_In_bitCount : am_MT := (⟨"java/lang/Integer", "bitCount", "(I)I"⟩, prog_14_method_49_code, 1, some .int, { frames := 0, cells := 0, slots := 0, locals := 0 })
def m_Sp_at : am_MT := (⟨"ShakePictures", "at", "(II)I"⟩, prog_1_method_7_code, 4, some .int, { frames := 2, cells := 0, slots := 0, locals := 43 })
def m_Sp_isCell : am_MT := (⟨"ShakePictures", "isCell", "(I)Z"⟩, prog_1_method_35_code, 2, some .boolean, { frames := 1, cells := 0, slots := 0, locals := 22 })
def m_Sp_time : am_MT := (⟨"ShakePictures", "time", "(III)I"⟩, prog_1_method_8_code, 4, some .int, { frames := 2, cells := 0, slots := 0, locals := 51 })
def m_Sp_isKind : am_MT := (⟨"ShakePictures", "isKind", "(I)Z"⟩, prog_1_method_40_code, 1, some .boolean, { frames := 1, cells := 0, slots := 0, locals := 22 })
def m_Gr_spread : am_MT := (⟨"ShakePictures$Ground", "spread", "(II)V"⟩, prog_6_method_10_code, 7, none, { frames := 1, cells := 0, slots := 0, locals := 25 })
def m_Gr_price : am_MT := (⟨"ShakePictures$Ground", "price", "(II)I"⟩, prog_6_method_9_code, 3, some .int, { frames := 0, cells := 0, slots := 0, locals := 0 })
def m_Gr_pull : am_MT := (⟨"ShakePictures$Ground", "pull", "(I)Z"⟩, prog_6_method_11_code, 6, some .boolean, { frames := 0, cells := 0, slots := 0, locals := 0 })
def m_Sp_way : am_MT := (⟨"ShakePictures", "way", "(IIII)I"⟩, prog_1_method_9_code, 5, some .int, { frames := 2, cells := 0, slots := 0, locals := 51 })
def m_Gr_trace : am_MT := (⟨"ShakePictures$Ground", "trace", "(I)V"⟩, prog_6_method_12_code, 3, none, { frames := 1, cells := 0, slots := 0, locals := 24 })
def m_Gr_nextOnWay : am_MT := (⟨"ShakePictures$Ground", "nextOnWay", "(I)I"⟩, prog_6_method_13_code, 5, some .int, { frames := 0, cells := 0, slots := 0, locals := 0 })
def m_Sp_ear : am_MT := (⟨"ShakePictures", "ear", "(I)I"⟩, prog_1_method_10_code, 2, some .int, { frames := 2, cells := 0, slots := 0, locals := 43 })
def m_Bo_addEar : am_MT := (⟨"ShakePictures$Book", "addEar", "(I)I"⟩, prog_3_method_3_code, 2, some .int, { frames := 0, cells := 0, slots := 0, locals := 0 })
def m_Sp_clock : am_MT := (⟨"ShakePictures", "clock", "(II)I"⟩, prog_1_method_11_code, 3, some .int, { frames := 2, cells := 0, slots := 0, locals := 43 })
def m_Sp_isEar : am_MT := (⟨"ShakePictures", "isEar", "(I)Z"⟩, prog_1_method_37_code, 2, some .boolean, { frames := 1, cells := 0, slots := 0, locals := 22 })
def m_Sp_shake : am_MT := (⟨"ShakePictures", "shake", "(II)I"⟩, prog_1_method_12_code, 3, some .int, { frames := 2, cells := 0, slots := 0, locals := 45 })
def m_Bo_addShake : am_MT := (⟨"ShakePictures$Book", "addShake", "(II)I"⟩, prog_3_method_4_code, 3, some .int, { frames := 1, cells := 0, slots := 0, locals := 23 })
def m_Bo_placeShake : am_MT := (⟨"ShakePictures$Book", "placeShake", "(III)V"⟩, prog_3_method_5_code, 4, none, { frames := 0, cells := 0, slots := 0, locals := 0 })
def m_Sp_put : am_MT := (⟨"ShakePictures", "put", "(III)I"⟩, prog_1_method_13_code, 4, some .int, { frames := 2, cells := 0, slots := 0, locals := 43 })
def m_Sp_isShake : am_MT := (⟨"ShakePictures", "isShake", "(I)Z"⟩, prog_1_method_38_code, 2, some .boolean, { frames := 1, cells := 0, slots := 0, locals := 22 })
def m_Sp_pick : am_MT := (⟨"ShakePictures", "pick", "(IIIII)I"⟩, prog_1_method_14_code, 7, some .int, { frames := 2, cells := 0, slots := 0, locals := 43 })
def m_Sp_isSpan : am_MT := (⟨"ShakePictures", "isSpan", "(II)Z"⟩, prog_1_method_41_code, 2, some .boolean, { frames := 0, cells := 0, slots := 0, locals := 0 })
def m_Bo_addPick : am_MT := (⟨"ShakePictures$Book", "addPick", "(III)I"⟩, prog_3_method_6_code, 4, some .int, { frames := 0, cells := 0, slots := 0, locals := 0 })
def m_Bo_addTelling : am_MT := (⟨"ShakePictures$Book", "addTelling", "(III)V"⟩, prog_3_method_7_code, 4, none, { frames := 0, cells := 0, slots := 0, locals := 0 })
def m_Sp_tell : am_MT := (⟨"ShakePictures", "tell", "(III)I"⟩, prog_1_method_15_code, 4, some .int, { frames := 2, cells := 0, slots := 0, locals := 43 })
def m_Sp_isPick : am_MT := (⟨"ShakePictures", "isPick", "(I)Z"⟩, prog_1_method_39_code, 2, some .boolean, { frames := 1, cells := 0, slots := 0, locals := 22 })
def m_Sp_days : am_MT := (⟨"ShakePictures", "days", "(I)I"⟩, prog_1_method_16_code, 2, some .int, { frames := 1, cells := 0, slots := 0, locals := 22 })
def m_Sp_of : am_MT := (⟨"ShakePictures", "of", "(II)I"⟩, prog_1_method_17_code, 3, some .int, { frames := 3, cells := 0, slots := 0, locals := 72 })
def m_Ft_foretold : am_MT := (⟨"ShakePictures$Fitter", "foretold", "(I)I"⟩, prog_5_method_2_code, 2, some .int, { frames := 2, cells := 0, slots := 0, locals := 51 })
def m_Bo_cellOfShake : am_MT := (⟨"ShakePictures$Book", "cellOfShake", "(I)I"⟩, prog_3_method_12_code, 2, some .int, { frames := 0, cells := 0, slots := 0, locals := 0 })
def m_Bo_begunOf : am_MT := (⟨"ShakePictures$Book", "begunOf", "(I)I"⟩, prog_3_method_14_code, 2, some .int, { frames := 0, cells := 0, slots := 0, locals := 0 })
def m_Bo_cellOfEar : am_MT := (⟨"ShakePictures$Book", "cellOfEar", "(I)I"⟩, prog_3_method_11_code, 2, some .int, { frames := 0, cells := 0, slots := 0, locals := 0 })
def m_Bo_clockOf : am_MT := (⟨"ShakePictures$Book", "clockOf", "(I)I"⟩, prog_3_method_13_code, 2, some .int, { frames := 0, cells := 0, slots := 0, locals := 0 })
def m_Bo_lowNow : am_MT := (⟨"ShakePictures$Book", "lowNow", "(I)I"⟩, prog_3_method_9_code, 3, some .int, { frames := 1, cells := 0, slots := 0, locals := 23 })
def m_Bo_lastTelling : am_MT := (⟨"ShakePictures$Book", "lastTelling", "(II)I"⟩, prog_3_method_8_code, 4, some .int, { frames := 0, cells := 0, slots := 0, locals := 0 })
def m_Bo_highNow : am_MT := (⟨"ShakePictures$Book", "highNow", "(I)I"⟩, prog_3_method_10_code, 3, some .int, { frames := 1, cells := 0, slots := 0, locals := 23 })
def m_Sp_missedBy : am_MT := (⟨"ShakePictures", "missedBy", "(III)I"⟩, prog_1_method_43_code, 3, some .int, { frames := 1, cells := 0, slots := 0, locals := 21 })
def m_Ma_max : am_MT := (⟨"java/lang/Math", "max", "(II)I"⟩, prog_15_method_65_code, 2, some .int, { frames := 0, cells := 0, slots := 0, locals := 0 })
def m_Sp_misfit : am_MT := (⟨"ShakePictures", "misfit", "(II)I"⟩, prog_1_method_18_code, 8, some .int, { frames := 3, cells := 0, slots := 0, locals := 72 })
def m_Sp_fit : am_MT := (⟨"ShakePictures", "fit", "(I)I"⟩, prog_1_method_19_code, 2, some .int, { frames := 6, cells := 0, slots := 0, locals := 156 })
def m_Ft_aimAtTold : am_MT := (⟨"ShakePictures$Fitter", "aimAtTold", "()V"⟩, prog_5_method_3_code, 2, none, { frames := 2, cells := 0, slots := 0, locals := 45 })
def m_Ft_sweep : am_MT := (⟨"ShakePictures$Fitter", "sweep", "(I)I"⟩, prog_5_method_5_code, 8, some .int, { frames := 5, cells := 0, slots := 0, locals := 129 })
def m_Gr_blocksInUse : am_MT := (⟨"ShakePictures$Ground", "blocksInUse", "()I"⟩, prog_6_method_6_code, 3, some .int, { frames := 1, cells := 0, slots := 0, locals := 23 })
def m_Ft_improve : am_MT := (⟨"ShakePictures$Fitter", "improve", "(I)I"⟩, prog_5_method_6_code, 4, some .int, { frames := 4, cells := 0, slots := 0, locals := 106 })
def m_Ft_gatherMembers : am_MT := (⟨"ShakePictures$Fitter", "gatherMembers", "(II)V"⟩, prog_5_method_7_code, 4, none, { frames := 0, cells := 0, slots := 0, locals := 0 })
def m_Ft_tabulate : am_MT := (⟨"ShakePictures$Fitter", "tabulate", "(III)V"⟩, prog_5_method_9_code, 11, none, { frames := 3, cells := 0, slots := 0, locals := 76 })
def m_Ft_measure : am_MT := (⟨"ShakePictures$Fitter", "measure", "(IIII)V"⟩, prog_5_method_10_code, 6, none, { frames := 2, cells := 0, slots := 0, locals := 51 })
def m_Ft_isStraight : am_MT := (⟨"ShakePictures$Fitter", "isStraight", "(IIII)Z"⟩, prog_5_method_11_code, 10, some .boolean, { frames := 1, cells := 0, slots := 0, locals := 22 })
def m_Ft_fillLine : am_MT := (⟨"ShakePictures$Fitter", "fillLine", "(III)V"⟩, prog_5_method_12_code, 10, none, { frames := 1, cells := 0, slots := 0, locals := 22 })
def m_Ft_addMisfits : am_MT := (⟨"ShakePictures$Fitter", "addMisfits", "(I)V"⟩, prog_5_method_8_code, 7, none, { frames := 2, cells := 0, slots := 0, locals := 43 })
def m_Sp_span : am_MT := (⟨"ShakePictures", "span", "(II)I"⟩, prog_1_method_20_code, 3, some .int, { frames := 3, cells := 0, slots := 0, locals := 76 })
def m_Ra_gather : am_MT := (⟨"ShakePictures$Rays", "gather", "()V"⟩, prog_9_method_2_code, 2, none, { frames := 2, cells := 0, slots := 0, locals := 51 })
def m_Gr_countRays : am_MT := (⟨"ShakePictures$Ground", "countRays", "([I)V"⟩, prog_6_method_14_code, 3, none, { frames := 1, cells := 0, slots := 0, locals := 23 })
def m_Pr_setBounds : am_MT := (⟨"ShakePictures$Press", "setBounds", "()V"⟩, prog_8_method_2_code, 4, none, { frames := 2, cells := 0, slots := 0, locals := 45 })
def m_Ra_allRows : am_MT := (⟨"ShakePictures$Rays", "allRows", "()I"⟩, prog_9_method_3_code, 1, some .int, { frames := 0, cells := 0, slots := 0, locals := 0 })
def m_Pr_quarrels : am_MT := (⟨"ShakePictures$Press", "quarrels", "(I)Z"⟩, prog_8_method_4_code, 5, some .boolean, { frames := 2, cells := 0, slots := 0, locals := 52 })
def m_Pr_narrow : am_MT := (⟨"ShakePictures$Press", "narrow", "(I)Z"⟩, prog_8_method_5_code, 10, some .boolean, { frames := 1, cells := 0, slots := 0, locals := 23 })
def m_Pr_weigh : am_MT := (⟨"ShakePictures$Press", "weigh", "([I[I)I"⟩, prog_8_method_6_code, 4, some .int, { frames := 0, cells := 0, slots := 0, locals := 0 })
def m_Ma_floorDiv : am_MT := (⟨"java/lang/Math", "floorDiv", "(II)I"⟩, prog_15_method_47_code, 3, some .int, { frames := 0, cells := 0, slots := 0, locals := 0 })
def m_Sp_quarrel : am_MT := (⟨"ShakePictures", "quarrel", "()I"⟩, prog_1_method_21_code, 1, some .int, { frames := 4, cells := 0, slots := 0, locals := 99 })
def m_Pr_leastQuarrel : am_MT := (⟨"ShakePictures$Press", "leastQuarrel", "()I"⟩, prog_8_method_3_code, 4, some .int, { frames := 3, cells := 0, slots := 0, locals := 76 })
def m_Ra_picksOf : am_MT := (⟨"ShakePictures$Rays", "picksOf", "(I)I"⟩, prog_9_method_4_code, 4, some .int, { frames := 0, cells := 0, slots := 0, locals := 0 })
def m_Sp_rank : am_MT := (⟨"ShakePictures", "rank", "()I"⟩, prog_1_method_22_code, 1, some .int, { frames := 4, cells := 0, slots := 0, locals := 104 })
def m_Re_takePicks : am_MT := (⟨"ShakePictures$Resolver", "takePicks", "()V"⟩, prog_10_method_2_code, 2, none, { frames := 3, cells := 0, slots := 0, locals := 83 })
def m_Ba_clear : am_MT := (⟨"ShakePictures$Basis", "clear", "()V"⟩, prog_2_method_2_code, 2, none, { frames := 0, cells := 0, slots := 0, locals := 0 })
def m_Ba_add : am_MT := (⟨"ShakePictures$Basis", "add", "([I)V"⟩, prog_2_method_4_code, 4, none, { frames := 2, cells := 0, slots := 0, locals := 60 })
def m_Ba_clearColumn : am_MT := (⟨"ShakePictures$Basis", "clearColumn", "([J[JI)V"⟩, prog_2_method_6_code, 8, none, { frames := 1, cells := 0, slots := 0, locals := 25 })
def m_Ma_floorMod : am_MT := (⟨"java/lang/Math", "floorMod", "(JJ)J"⟩, prog_15_method_52_code, 6, some .long, { frames := 0, cells := 0, slots := 0, locals := 0 })
def m_Ba_firstColumn : am_MT := (⟨"ShakePictures$Basis", "firstColumn", "()I"⟩, prog_2_method_5_code, 2, some .int, { frames := 0, cells := 0, slots := 0, locals := 0 })
def m_Sp_resolved : am_MT := (⟨"ShakePictures", "resolved", "(I)I"⟩, prog_1_method_23_code, 2, some .int, { frames := 4, cells := 0, slots := 0, locals := 104 })
def m_Ba_isResolved : am_MT := (⟨"ShakePictures$Basis", "isResolved", "(I)Z"⟩, prog_2_method_7_code, 3, some .boolean, { frames := 0, cells := 0, slots := 0, locals := 0 })
def m_Ra_isTouched : am_MT := (⟨"ShakePictures$Rays", "isTouched", "(I)Z"⟩, prog_9_method_5_code, 3, some .boolean, { frames := 0, cells := 0, slots := 0, locals := 0 })
def m_Sp_best : am_MT := (⟨"ShakePictures", "best", "(I)I"⟩, prog_1_method_24_code, 2, some .int, { frames := 5, cells := 0, slots := 0, locals := 127 })
def m_Re_findBestEar : am_MT := (⟨"ShakePictures$Resolver", "findBestEar", "()V"⟩, prog_10_method_3_code, 3, none, { frames := 4, cells := 0, slots := 0, locals := 105 })
def m_Re_resolvedWith : am_MT := (⟨"ShakePictures$Resolver", "resolvedWith", "(I)I"⟩, prog_10_method_4_code, 3, some .int, { frames := 3, cells := 0, slots := 0, locals := 83 })
def m_Ba_copyFrom : am_MT := (⟨"ShakePictures$Basis", "copyFrom", "(LShakePictures$Basis;)V"⟩, prog_2_method_3_code, 3, none, { frames := 1, cells := 0, slots := 0, locals := 60 })
def m_Ba_countResolved : am_MT := (⟨"ShakePictures$Basis", "countResolved", "()I"⟩, prog_2_method_8_code, 3, some .int, { frames := 1, cells := 0, slots := 0, locals := 22 })
def m_Sp_heap : am_MT := (⟨"ShakePictures", "heap", "(III)I"⟩, prog_1_method_25_code, 4, some .int, { frames := 5, cells := 0, slots := 0, locals := 116 })
def m_Fi_heapUp : am_MT := (⟨"ShakePictures$Finder", "heapUp", "(II)V"⟩, prog_4_method_2_code, 6, none, { frames := 4, cells := 0, slots := 0, locals := 91 })
def m_Fi_gatherBegun : am_MT := (⟨"ShakePictures$Finder", "gatherBegun", "(II)V"⟩, prog_4_method_3_code, 5, none, { frames := 3, cells := 0, slots := 0, locals := 67 })
def m_Fi_addSpan : am_MT := (⟨"ShakePictures$Finder", "addSpan", "(II)V"⟩, prog_4_method_4_code, 3, none, { frames := 2, cells := 0, slots := 0, locals := 45 })
def m_Fi_countFitting : am_MT := (⟨"ShakePictures$Finder", "countFitting", "(I)I"⟩, prog_4_method_5_code, 4, some .int, { frames := 0, cells := 0, slots := 0, locals := 0 })
def m_Sp_move : am_MT := (⟨"ShakePictures", "move", "(I)I"⟩, prog_1_method_26_code, 2, some .int, { frames := 6, cells := 0, slots := 0, locals := 141 })
def m_Bo_hasPicks : am_MT := (⟨"ShakePictures$Book", "hasPicks", "(I)Z"⟩, prog_3_method_15_code, 3, some .boolean, { frames := 0, cells := 0, slots := 0, locals := 0 })
def m_Fi_moveShake : am_MT := (⟨"ShakePictures$Finder", "moveShake", "(I)I"⟩, prog_4_method_6_code, 6, some .int, { frames := 5, cells := 0, slots := 0, locals := 116 })
def m_Sp_off : am_MT := (⟨"ShakePictures", "off", "(I)I"⟩, prog_1_method_27_code, 2, some .int, { frames := 4, cells := 0, slots := 0, locals := 93 })
def m_Fi_clockOff : am_MT := (⟨"ShakePictures$Finder", "clockOff", "(I)I"⟩, prog_4_method_7_code, 7, some .int, { frames := 3, cells := 0, slots := 0, locals := 67 })
def m_Sp_board : am_MT := (⟨"ShakePictures", "board", "(III)I"⟩, prog_1_method_28_code, 5, some .int, { frames := 6, cells := 0, slots := 0, locals := 156 })
def m_Me_keep : am_MT := (⟨"ShakePictures$Memory", "keep", "()V"⟩, prog_7_method_2_code, 1, none, { frames := 1, cells := 0, slots := 0, locals := 60 })
def m_Gr_paintBoard : am_MT := (⟨"ShakePictures$Ground", "paintBoard", "(II)V"⟩, prog_6_method_15_code, 4, none, { frames := 1, cells := 0, slots := 0, locals := 22 })
def m_Gr_onBoard : am_MT := (⟨"ShakePictures$Ground", "onBoard", "(III)I"⟩, prog_6_method_17_code, 3, some .int, { frames := 0, cells := 0, slots := 0, locals := 0 })
def m_Ft_aimAtForetold : am_MT := (⟨"ShakePictures$Fitter", "aimAtForetold", "(I)V"⟩, prog_5_method_4_code, 4, none, { frames := 3, cells := 0, slots := 0, locals := 72 })
def m_Gr_countAsOnBoard : am_MT := (⟨"ShakePictures$Ground", "countAsOnBoard", "(II)I"⟩, prog_6_method_16_code, 5, some .int, { frames := 1, cells := 0, slots := 0, locals := 23 })
def m_Me_bringBack : am_MT := (⟨"ShakePictures$Memory", "bringBack", "()V"⟩, prog_7_method_3_code, 1, none, { frames := 1, cells := 0, slots := 0, locals := 60 })
def m_Sp_write : am_MT := (⟨"ShakePictures", "write", "(JI)I"⟩, prog_1_method_29_code, 4, some .int, { frames := 1, cells := 0, slots := 0, locals := 24 })
def m_Sc_append : am_MT := (⟨"ShakePictures$Script", "append", "(JI)V"⟩, prog_11_method_2_code, 5, none, { frames := 0, cells := 0, slots := 0, locals := 0 })
def m_Sp_erase : am_MT := (⟨"ShakePictures", "erase", "()I"⟩, prog_1_method_30_code, 2, some .int, { frames := 0, cells := 0, slots := 0, locals := 0 })
def m_Sp_fault : am_MT := (⟨"ShakePictures", "fault", "()I"⟩, prog_1_method_31_code, 1, some .int, { frames := 9, cells := 0, slots := 0, locals := 193 })
def m_Sc_read : am_MT := (⟨"ShakePictures$Script", "read", "()I"⟩, prog_11_method_3_code, 1, some .int, { frames := 8, cells := 0, slots := 0, locals := 173 })
def m_Sc_advance : am_MT := (⟨"ShakePictures$Script", "advance", "()V"⟩, prog_11_method_12_code, 1, none, { frames := 1, cells := 0, slots := 0, locals := 22 })
def m_Sc_sortAt : am_MT := (⟨"ShakePictures$Script", "sortAt", "(I)I"⟩, prog_11_method_13_code, 3, some .int, { frames := 0, cells := 0, slots := 0, locals := 0 })
def m_Sc_numberHere : am_MT := (⟨"ShakePictures$Script", "numberHere", "()I"⟩, prog_11_method_14_code, 3, some .int, { frames := 0, cells := 0, slots := 0, locals := 0 })
def m_Sc_readStatement : am_MT := (⟨"ShakePictures$Script", "readStatement", "()Z"⟩, prog_11_method_4_code, 2, some .boolean, { frames := 7, cells := 0, slots := 0, locals := 152 })
def m_Sc_verbHere : am_MT := (⟨"ShakePictures$Script", "verbHere", "()I"⟩, prog_11_method_5_code, 2, some .int, { frames := 6, cells := 0, slots := 0, locals := 128 })
def m_Sc_wordOf : am_MT := (⟨"ShakePictures$Script", "wordOf", "(I)Ljava/lang/String;"⟩, prog_11_method_6_code, 1, some (.object "java/lang/String"), { frames := 0, cells := 0, slots := 0, locals := 0 })
def m_Sc_isWord : am_MT := (⟨"ShakePictures$Script", "isWord", "(Ljava/lang/String;)Z"⟩, prog_11_method_11_code, 3, some .boolean, { frames := 5, cells := 0, slots := 0, locals := 106 })
def m_St_length : am_MT := (⟨"java/lang/String", "length", "()I"⟩, prog_16_method_54_code, 1, some .int, { frames := 1, cells := 0, slots := 0, locals := 20 })
def m_St_coder : am_MT := (⟨"java/lang/String", "coder", "()B"⟩, prog_16_method_152_code, 1, some .byte, { frames := 0, cells := 0, slots := 0, locals := 0 })
def m_St_charAt : am_MT := (⟨"java/lang/String", "charAt", "(I)C"⟩, prog_16_method_56_code, 2, some .char, { frames := 4, cells := 0, slots := 0, locals := 85 })
def m_St_isLatin1 : am_MT := (⟨"java/lang/String", "isLatin1", "()Z"⟩, prog_16_method_154_code, 1, some .boolean, { frames := 0, cells := 0, slots := 0, locals := 0 })
def m_L1_charAt : am_MT := (⟨"java/lang/StringLatin1", "charAt", "([BI)C"⟩, prog_17_method_2_code, 2, some .char, { frames := 2, cells := 0, slots := 0, locals := 43 })
def m_St_checkIndex : am_MT := (⟨"java/lang/String", "checkIndex", "(II)V"⟩, prog_16_method_155_code, 2, none, { frames := 1, cells := 0, slots := 0, locals := 22 })
def m_Pc_checkIndex : am_MT := (⟨"jdk/internal/util/Preconditions", "checkIndex", "(IILjava/util/function/BiFunction;)I"⟩, prog_21_method_11_code, 3, some .int, { frames := 0, cells := 0, slots := 0, locals := 0 })
def m_Sc_readFirst : am_MT := (⟨"ShakePictures$Script", "readFirst", "(II)Z"⟩, prog_11_method_7_code, 3, some .boolean, { frames := 3, cells := 0, slots := 0, locals := 64 })
def m_Sc_passNumber : am_MT := (⟨"ShakePictures$Script", "passNumber", "(II)Z"⟩, prog_11_method_10_code, 3, some .boolean, { frames := 2, cells := 0, slots := 0, locals := 42 })
def m_Sc_readSecond : am_MT := (⟨"ShakePictures$Script", "readSecond", "(II)Z"⟩, prog_11_method_8_code, 3, some .boolean, { frames := 3, cells := 0, slots := 0, locals := 64 })
def m_Sc_readCells : am_MT := (⟨"ShakePictures$Script", "readCells", "()Z"⟩, prog_11_method_9_code, 5, some .boolean, { frames := 6, cells := 0, slots := 0, locals := 128 })
def m_Sp_run : am_MT := (⟨"ShakePictures", "run", "()I"⟩, prog_1_method_32_code, 2, some .int, { frames := 9, cells := 0, slots := 0, locals := 193 })
def m_Sp_obey : am_MT := (⟨"ShakePictures", "obey", "(III)Z"⟩, prog_1_method_34_code, 4, some .boolean, { frames := 6, cells := 0, slots := 0, locals := 156 })
def m_Sp_count : am_MT := (⟨"ShakePictures", "count", "(I)I"⟩, prog_1_method_33_code, 2, some .int, { frames := 2, cells := 0, slots := 0, locals := 45 })
def m_Mo_init : am_MT := (⟨"ShakePicturesModel", "<init>", "()V"⟩, prog_13_method_1_code, 2, none, { frames := 1, cells := 32, slots := 1449, locals := 24 })
def m_Mo_ground : am_MT := (⟨"ShakePicturesModel", "ground", "(II)I"⟩, prog_13_method_7_code, 4, some .int, { frames := 1, cells := 0, slots := 0, locals := 22 })
def m_Mo_in : am_MT := (⟨"ShakePicturesModel", "in", "(III)Z"⟩, prog_13_method_2_code, 3, some .boolean, { frames := 0, cells := 0, slots := 0, locals := 0 })
def m_Mo_cells : am_MT := (⟨"ShakePicturesModel", "cells", "()I"⟩, prog_13_method_3_code, 1, some .int, { frames := 0, cells := 0, slots := 0, locals := 0 })
def m_Mo_ratio : am_MT := (⟨"ShakePicturesModel", "ratio", "(I)I"⟩, prog_13_method_8_code, 3, some .int, { frames := 1, cells := 0, slots := 0, locals := 22 })
def m_Mo_slow : am_MT := (⟨"ShakePicturesModel", "slow", "(II)I"⟩, prog_13_method_9_code, 4, some .int, { frames := 2, cells := 0, slots := 0, locals := 42 })
def m_Mo_isBlock : am_MT := (⟨"ShakePicturesModel", "isBlock", "(I)Z"⟩, prog_13_method_5_code, 1, some .boolean, { frames := 1, cells := 0, slots := 0, locals := 22 })
def m_Mo_split : am_MT := (⟨"ShakePicturesModel", "split", "(II)I"⟩, prog_13_method_10_code, 6, some .int, { frames := 2, cells := 0, slots := 0, locals := 43 })
def m_Mo_sizeOf : am_MT := (⟨"ShakePicturesModel", "sizeOf", "(I)I"⟩, prog_13_method_6_code, 4, some .int, { frames := 1, cells := 0, slots := 0, locals := 20 })
def m_Mo_join : am_MT := (⟨"ShakePicturesModel", "join", "(II)I"⟩, prog_13_method_11_code, 4, some .int, { frames := 2, cells := 0, slots := 0, locals := 43 })
def m_Mo_at : am_MT := (⟨"ShakePicturesModel", "at", "(II)I"⟩, prog_13_method_12_code, 3, some .int, { frames := 2, cells := 0, slots := 0, locals := 43 })
def m_Mo_isCell : am_MT := (⟨"ShakePicturesModel", "isCell", "(I)Z"⟩, prog_13_method_4_code, 2, some .boolean, { frames := 1, cells := 0, slots := 0, locals := 22 })
def m_Mo_time : am_MT := (⟨"ShakePicturesModel", "time", "(III)I"⟩, prog_13_method_17_code, 4, some .int, { frames := 2, cells := 0, slots := 0, locals := 52 })
def m_Mo_isKind : am_MT := (⟨"ShakePicturesModel", "isKind", "(I)Z"⟩, prog_13_method_16_code, 1, some .boolean, { frames := 1, cells := 0, slots := 0, locals := 22 })
def m_Mo_findTimes : am_MT := (⟨"ShakePicturesModel", "findTimes", "(II)V"⟩, prog_13_method_15_code, 10, none, { frames := 1, cells := 0, slots := 0, locals := 23 })
def m_Mo_slowAt : am_MT := (⟨"ShakePicturesModel", "slowAt", "(II)I"⟩, prog_13_method_13_code, 4, some .int, { frames := 0, cells := 0, slots := 0, locals := 0 })
def m_Mo_way : am_MT := (⟨"ShakePicturesModel", "way", "(IIII)I"⟩, prog_13_method_19_code, 7, some .int, { frames := 2, cells := 0, slots := 0, locals := 52 })
def m_Mo_nextOf : am_MT := (⟨"ShakePicturesModel", "nextOf", "(II)I"⟩, prog_13_method_18_code, 4, some .int, { frames := 1, cells := 0, slots := 0, locals := 24 })
def m_Mo_areBeside : am_MT := (⟨"ShakePicturesModel", "areBeside", "(II)Z"⟩, prog_13_method_14_code, 5, some .boolean, { frames := 0, cells := 0, slots := 0, locals := 0 })
def m_Mo_ear : am_MT := (⟨"ShakePicturesModel", "ear", "(I)I"⟩, prog_13_method_23_code, 2, some .int, { frames := 2, cells := 0, slots := 0, locals := 43 })
def m_Mo_clock : am_MT := (⟨"ShakePicturesModel", "clock", "(II)I"⟩, prog_13_method_24_code, 3, some .int, { frames := 2, cells := 0, slots := 0, locals := 43 })
def m_Mo_isEar : am_MT := (⟨"ShakePicturesModel", "isEar", "(I)Z"⟩, prog_13_method_20_code, 2, some .boolean, { frames := 1, cells := 0, slots := 0, locals := 22 })
def m_Mo_shake : am_MT := (⟨"ShakePicturesModel", "shake", "(II)I"⟩, prog_13_method_25_code, 3, some .int, { frames := 2, cells := 0, slots := 0, locals := 43 })
def m_Mo_put : am_MT := (⟨"ShakePicturesModel", "put", "(III)I"⟩, prog_13_method_26_code, 4, some .int, { frames := 2, cells := 0, slots := 0, locals := 43 })
def m_Mo_isShake : am_MT := (⟨"ShakePicturesModel", "isShake", "(I)Z"⟩, prog_13_method_21_code, 2, some .boolean, { frames := 1, cells := 0, slots := 0, locals := 22 })
def m_Mo_pick : am_MT := (⟨"ShakePicturesModel", "pick", "(IIIII)I"⟩, prog_13_method_29_code, 6, some .int, { frames := 2, cells := 0, slots := 0, locals := 43 })
def m_Mo_isSpan : am_MT := (⟨"ShakePicturesModel", "isSpan", "(II)Z"⟩, prog_13_method_27_code, 2, some .boolean, { frames := 1, cells := 0, slots := 0, locals := 22 })
def m_Mo_addTelling : am_MT := (⟨"ShakePicturesModel", "addTelling", "(III)V"⟩, prog_13_method_28_code, 4, none, { frames := 0, cells := 0, slots := 0, locals := 0 })
def m_Mo_tell : am_MT := (⟨"ShakePicturesModel", "tell", "(III)I"⟩, prog_13_method_30_code, 4, some .int, { frames := 2, cells := 0, slots := 0, locals := 43 })
def m_Mo_isPick : am_MT := (⟨"ShakePicturesModel", "isPick", "(I)Z"⟩, prog_13_method_22_code, 2, some .boolean, { frames := 1, cells := 0, slots := 0, locals := 22 })
def m_Mo_days : am_MT := (⟨"ShakePicturesModel", "days", "(I)I"⟩, prog_13_method_31_code, 2, some .int, { frames := 1, cells := 0, slots := 0, locals := 22 })
def m_Mo_of : am_MT := (⟨"ShakePicturesModel", "of", "(II)I"⟩, prog_13_method_37_code, 5, some .int, { frames := 3, cells := 0, slots := 0, locals := 74 })
def m_Mo_findSpans : am_MT := (⟨"ShakePicturesModel", "findSpans", "(I)V"⟩, prog_13_method_32_code, 3, none, { frames := 0, cells := 0, slots := 0, locals := 0 })
def m_Mo_findShakeTimes : am_MT := (⟨"ShakePicturesModel", "findShakeTimes", "()V"⟩, prog_13_method_33_code, 3, none, { frames := 2, cells := 0, slots := 0, locals := 52 })
def m_Mo_foretold : am_MT := (⟨"ShakePicturesModel", "foretold", "(I)I"⟩, prog_13_method_34_code, 3, some .int, { frames := 0, cells := 0, slots := 0, locals := 0 })
def m_Mo_offOf : am_MT := (⟨"ShakePicturesModel", "offOf", "(II)I"⟩, prog_13_method_35_code, 3, some .int, { frames := 0, cells := 0, slots := 0, locals := 0 })
def m_Mo_misfit : am_MT := (⟨"ShakePicturesModel", "misfit", "(II)I"⟩, prog_13_method_38_code, 6, some .int, { frames := 4, cells := 0, slots := 0, locals := 96 })
def m_Mo_misfitNow : am_MT := (⟨"ShakePicturesModel", "misfitNow", "()I"⟩, prog_13_method_36_code, 3, some .int, { frames := 3, cells := 0, slots := 0, locals := 74 })
def m_Mo_fit : am_MT := (⟨"ShakePicturesModel", "fit", "(I)I"⟩, prog_13_method_41_code, 2, some .int, { frames := 6, cells := 0, slots := 0, locals := 146 })
def m_Mo_fitAll : am_MT := (⟨"ShakePicturesModel", "fitAll", "(I)V"⟩, prog_13_method_40_code, 5, none, { frames := 5, cells := 0, slots := 0, locals := 122 })
def m_Mo_fitBlock : am_MT := (⟨"ShakePicturesModel", "fitBlock", "(I)Z"⟩, prog_13_method_39_code, 7, some .boolean, { frames := 4, cells := 0, slots := 0, locals := 96 })
def m_Mo_span : am_MT := (⟨"ShakePicturesModel", "span", "(II)I"⟩, prog_13_method_47_code, 3, some .int, { frames := 4, cells := 0, slots := 0, locals := 98 })
def m_Mo_findRays : am_MT := (⟨"ShakePicturesModel", "findRays", "()V"⟩, prog_13_method_43_code, 2, none, { frames := 3, cells := 0, slots := 0, locals := 77 })
def m_Mo_layRays : am_MT := (⟨"ShakePicturesModel", "layRays", "(III)V"⟩, prog_13_method_42_code, 6, none, { frames := 2, cells := 0, slots := 0, locals := 52 })
def m_Mo_press : am_MT := (⟨"ShakePicturesModel", "press", "(I)Z"⟩, prog_13_method_46_code, 9, some .boolean, { frames := 1, cells := 0, slots := 0, locals := 25 })
def m_Mo_others : am_MT := (⟨"ShakePicturesModel", "others", "(IIZ)I"⟩, prog_13_method_45_code, 6, some .int, { frames := 0, cells := 0, slots := 0, locals := 0 })
def m_Mo_floorOf : am_MT := (⟨"ShakePicturesModel", "floorOf", "(II)I"⟩, prog_13_method_44_code, 3, some .int, { frames := 0, cells := 0, slots := 0, locals := 0 })
def m_Mo_quarrel : am_MT := (⟨"ShakePicturesModel", "quarrel", "()I"⟩, prog_13_method_49_code, 4, some .int, { frames := 4, cells := 0, slots := 0, locals := 98 })
def m_Mo_bits : am_MT := (⟨"ShakePicturesModel", "bits", "(I)I"⟩, prog_13_method_48_code, 3, some .int, { frames := 0, cells := 0, slots := 0, locals := 0 })
def m_Mo_rank : am_MT := (⟨"ShakePicturesModel", "rank", "()I"⟩, prog_13_method_53_code, 1, some .int, { frames := 4, cells := 0, slots := 0, locals := 98 })
def m_Mo_layRows : am_MT := (⟨"ShakePicturesModel", "layRows", "()I"⟩, prog_13_method_52_code, 4, some .int, { frames := 0, cells := 0, slots := 0, locals := 0 })
def m_Mo_rankOf : am_MT := (⟨"ShakePicturesModel", "rankOf", "(I)I"⟩, prog_13_method_51_code, 11, some .int, { frames := 1, cells := 0, slots := 0, locals := 27 })
def m_Mo_inverse : am_MT := (⟨"ShakePicturesModel", "inverse", "(J)J"⟩, prog_13_method_50_code, 8, some .long, { frames := 0, cells := 0, slots := 0, locals := 0 })
def m_Mo_resolved : am_MT := (⟨"ShakePicturesModel", "resolved", "(I)I"⟩, prog_13_method_56_code, 4, some .int, { frames := 4, cells := 0, slots := 0, locals := 98 })
def m_Mo_isResolved : am_MT := (⟨"ShakePicturesModel", "isResolved", "(I)Z"⟩, prog_13_method_55_code, 5, some .boolean, { frames := 2, cells := 0, slots := 0, locals := 57 })
def m_Mo_layAll : am_MT := (⟨"ShakePicturesModel", "layAll", "()I"⟩, prog_13_method_54_code, 3, some .int, { frames := 1, cells := 0, slots := 0, locals := 23 })
def m_Mo_best : am_MT := (⟨"ShakePicturesModel", "best", "(I)I"⟩, prog_13_method_58_code, 6, some .int, { frames := 4, cells := 0, slots := 0, locals := 104 })
def m_Mo_resolvedWith : am_MT := (⟨"ShakePicturesModel", "resolvedWith", "(I)I"⟩, prog_13_method_57_code, 4, some .int, { frames := 3, cells := 0, slots := 0, locals := 81 })
def m_Mo_heap : am_MT := (⟨"ShakePicturesModel", "heap", "(III)I"⟩, prog_13_method_60_code, 4, some .int, { frames := 3, cells := 0, slots := 0, locals := 78 })
def m_Mo_findHeap : am_MT := (⟨"ShakePicturesModel", "findHeap", "(II)V"⟩, prog_13_method_59_code, 7, none, { frames := 2, cells := 0, slots := 0, locals := 52 })
def m_Mo_move : am_MT := (⟨"ShakePicturesModel", "move", "(I)I"⟩, prog_13_method_61_code, 7, some .int, { frames := 3, cells := 0, slots := 0, locals := 78 })
def m_Mo_off : am_MT := (⟨"ShakePicturesModel", "off", "(I)I"⟩, prog_13_method_62_code, 8, some .int, { frames := 3, cells := 0, slots := 0, locals := 74 })
def m_Mo_board : am_MT := (⟨"ShakePicturesModel", "board", "(III)I"⟩, prog_13_method_63_code, 6, some .int, { frames := 6, cells := 0, slots := 0, locals := 146 })
def m_Mo_write : am_MT := (⟨"ShakePicturesModel", "write", "(JI)I"⟩, prog_13_method_64_code, 5, some .int, { frames := 1, cells := 0, slots := 0, locals := 22 })
def m_Mo_erase : am_MT := (⟨"ShakePicturesModel", "erase", "()I"⟩, prog_13_method_65_code, 2, some .int, { frames := 0, cells := 0, slots := 0, locals := 0 })
def m_Mo_fault : am_MT := (⟨"ShakePicturesModel", "fault", "()I"⟩, prog_13_method_74_code, 1, some .int, { frames := 5, cells := 0, slots := 0, locals := 109 })
def m_Mo_isRead : am_MT := (⟨"ShakePicturesModel", "isRead", "()Z"⟩, prog_13_method_73_code, 2, some .boolean, { frames := 4, cells := 0, slots := 0, locals := 88 })
def m_Mo_nextToken : am_MT := (⟨"ShakePicturesModel", "nextToken", "()V"⟩, prog_13_method_66_code, 1, none, { frames := 1, cells := 0, slots := 0, locals := 22 })
def m_Mo_isStatement : am_MT := (⟨"ShakePicturesModel", "isStatement", "()Z"⟩, prog_13_method_72_code, 1, some .boolean, { frames := 3, cells := 0, slots := 0, locals := 68 })
def m_Mo_isTwo : am_MT := (⟨"ShakePicturesModel", "isTwo", "(IIII)Z"⟩, prog_13_method_69_code, 5, some .boolean, { frames := 2, cells := 0, slots := 0, locals := 44 })
def m_Mo_isNumber : am_MT := (⟨"ShakePicturesModel", "isNumber", "(II)Z"⟩, prog_13_method_67_code, 3, some .boolean, { frames := 1, cells := 0, slots := 0, locals := 22 })
def m_Mo_fails : am_MT := (⟨"ShakePicturesModel", "fails", "()Z"⟩, prog_13_method_68_code, 1, some .boolean, { frames := 0, cells := 0, slots := 0, locals := 0 })
def m_Mo_isFit : am_MT := (⟨"ShakePicturesModel", "isFit", "()Z"⟩, prog_13_method_71_code, 1, some .boolean, { frames := 2, cells := 0, slots := 0, locals := 44 })
def m_Mo_isSplit : am_MT := (⟨"ShakePicturesModel", "isSplit", "()Z"⟩, prog_13_method_70_code, 2, some .boolean, { frames := 2, cells := 0, slots := 0, locals := 44 })
def m_Mo_run : am_MT := (⟨"ShakePicturesModel", "run", "()I"⟩, prog_13_method_76_code, 3, some .int, { frames := 8, cells := 0, slots := 0, locals := 188 })
def m_Mo_isDone : am_MT := (⟨"ShakePicturesModel", "isDone", "(I)Z"⟩, prog_13_method_75_code, 2, some .boolean, { frames := 7, cells := 0, slots := 0, locals := 167 })
def m_Mo_count : am_MT := (⟨"ShakePicturesModel", "count", "(I)I"⟩, prog_13_method_77_code, 4, some .int, { frames := 2, cells := 0, slots := 0, locals := 43 })
def m_La_law : am_MT := (⟨"ShakePicturesLaw", "law", "([I)Z"⟩, code, 4, some .boolean, { frames := 12, cells := 600000, slots := 7302250, locals := 430 })
theorem ic_Sp : Cond.initialized "ShakePictures" ∈ am_tbl := am_in1 1 (by decide +kernel) (by decide +kernel)
theorem ic_Ba : Cond.initialized "ShakePictures$Basis" ∈ am_tbl := am_in1 9 (by decide +kernel) (by decide +kernel)
theorem ic_Bo : Cond.initialized "ShakePictures$Book" ∈ am_tbl := am_in1 4 (by decide +kernel) (by decide +kernel)
theorem ic_Fi : Cond.initialized "ShakePictures$Finder" ∈ am_tbl := am_in1 10 (by decide +kernel) (by decide +kernel)
theorem ic_Ft : Cond.initialized "ShakePictures$Fitter" ∈ am_tbl := am_in1 6 (by decide +kernel) (by decide +kernel)
theorem ic_Gr : Cond.initialized "ShakePictures$Ground" ∈ am_tbl := am_in1 2 (by decide +kernel) (by decide +kernel)
theorem ic_Me : Cond.initialized "ShakePictures$Memory" ∈ am_tbl := am_in1 12 (by decide +kernel) (by decide +kernel)
theorem ic_Pr : Cond.initialized "ShakePictures$Press" ∈ am_tbl := am_in1 7 (by decide +kernel) (by decide +kernel)
theorem ic_Ra : Cond.initialized "ShakePictures$Rays" ∈ am_tbl := am_in1 5 (by decide +kernel) (by decide +kernel)
theorem ic_Re : Cond.initialized "ShakePictures$Resolver" ∈ am_tbl := am_in1 8 (by decide +kernel) (by decide +kernel)
theorem ic_Sc : Cond.initialized "ShakePictures$Script" ∈ am_tbl := am_in1 11 (by decide +kernel) (by decide +kernel)
theorem ic_La : Cond.initialized "ShakePicturesLaw" ∈ am_tbl := am_in1 0 (by decide +kernel) (by decide +kernel)
theorem ic_Mo : Cond.initialized "ShakePicturesModel" ∈ am_tbl := am_in1 13 (by decide +kernel) (by decide +kernel)
theorem ic_In : Cond.initialized "java/lang/Integer" ∈ am_tbl := am_in1 14 (by decide +kernel) (by decide +kernel)
theorem ic_Ma : Cond.initialized "java/lang/Math" ∈ am_tbl := am_in1 15 (by decide +kernel) (by decide +kernel)
theorem ic_St : Cond.initialized "java/lang/String" ∈ am_tbl := am_in1 17 (by decide +kernel) (by decide +kernel)
theorem ic_L1 : Cond.initialized "java/lang/StringLatin1" ∈ am_tbl := am_in1 18 (by decide +kernel) (by decide +kernel)
theorem ic_Ar : Cond.initialized "java/util/Arrays" ∈ am_tbl := am_in1 3 (by decide +kernel) (by decide +kernel)
theorem ic_Pc : Cond.initialized "jdk/internal/util/Preconditions" ∈ am_tbl := am_in1 19 (by decide +kernel) (by decide +kernel)
theorem mb_Sp_init : Cond.code m_Sp_init.1 m_Sp_init.2.1 m_Sp_init.2.2.1 m_Sp_init.2.2.2.1 ∈ am_tbl := am_in1 25 (by decide +kernel) (by decide +kernel)
theorem mz_Sp_init : plainFor m_Sp_init.1 = true ∧ (m_Sp_init.1.cls ≠ "java/lang/invoke/MethodHandle" ∧ m_Sp_init.1.cls ≠ "java/lang/invoke/VarHandle" ∧ (parseMethodDescriptor m_Sp_init.1.desc).map (fun d => d.parameters.length) = some 0) := by decide +kernel
theorem mi_Sp_init : Cond.instanceMethod m_Sp_init.1 ∈ am_tbl := am_in1 24 (by decide +kernel) (by decide +kernel)
theorem mb_Gr_init : Cond.code m_Gr_init.1 m_Gr_init.2.1 m_Gr_init.2.2.1 m_Gr_init.2.2.2.1 ∈ am_tbl := am_in1 33 (by decide +kernel) (by decide +kernel)
theorem mz_Gr_init : plainFor m_Gr_init.1 = true ∧ (m_Gr_init.1.cls ≠ "java/lang/invoke/MethodHandle" ∧ m_Gr_init.1.cls ≠ "java/lang/invoke/VarHandle" ∧ (parseMethodDescriptor m_Gr_init.1.desc).map (fun d => d.parameters.length) = some 0) := by decide +kernel
theorem mi_Gr_init : Cond.instanceMethod m_Gr_init.1 ∈ am_tbl := am_in1 32 (by decide +kernel) (by decide +kernel)
theorem mb_Gr_lay : Cond.code m_Gr_lay.1 m_Gr_lay.2.1 m_Gr_lay.2.2.1 m_Gr_lay.2.2.2.1 ∈ am_tbl := am_in1 82 (by decide +kernel) (by decide +kernel)
theorem mz_Gr_lay : plainFor m_Gr_lay.1 = true ∧ (m_Gr_lay.1.cls ≠ "java/lang/invoke/MethodHandle" ∧ m_Gr_lay.1.cls ≠ "java/lang/invoke/VarHandle" ∧ (parseMethodDescriptor m_Gr_lay.1.desc).map (fun d => d.parameters.length) = some 2) := by decide +kernel
theorem mi_Gr_lay : Cond.instanceMethod m_Gr_lay.1 ∈ am_tbl := am_in1 80 (by decide +kernel) (by decide +kernel)
theorem se_Gr_lay : Cond.selects m_Gr_lay.1.cls m_Gr_lay.1 m_Gr_lay.1 ∈ am_tbl := am_in1 81 (by decide +kernel) (by decide +kernel)
theorem mb_Ar_fill : Cond.code m_Ar_fill.1 m_Ar_fill.2.1 m_Ar_fill.2.2.1 m_Ar_fill.2.2.2.1 ∈ am_tbl := am_in1 85 (by decide +kernel) (by decide +kernel)
theorem mz_Ar_fill : plainFor m_Ar_fill.1 = true ∧ (m_Ar_fill.1.cls ≠ "java/lang/invoke/MethodHandle" ∧ m_Ar_fill.1.cls ≠ "java/lang/invoke/VarHandle" ∧ (parseMethodDescriptor m_Ar_fill.1.desc).map (fun d => d.parameters.length) = some 2) := by decide +kernel
theorem ms_Ar_fill : Cond.static m_Ar_fill.1 ∈ am_tbl := am_in1 84 (by decide +kernel) (by decide +kernel)
theorem mb_Bo_init : Cond.code m_Bo_init.1 m_Bo_init.2.1 m_Bo_init.2.2.1 m_Bo_init.2.2.2.1 ∈ am_tbl := am_in1 90 (by decide +kernel) (by decide +kernel)
theorem mz_Bo_init : plainFor m_Bo_init.1 = true ∧ (m_Bo_init.1.cls ≠ "java/lang/invoke/MethodHandle" ∧ m_Bo_init.1.cls ≠ "java/lang/invoke/VarHandle" ∧ (parseMethodDescriptor m_Bo_init.1.desc).map (fun d => d.parameters.length) = some 0) := by decide +kernel
theorem mi_Bo_init : Cond.instanceMethod m_Bo_init.1 ∈ am_tbl := am_in1 89 (by decide +kernel) (by decide +kernel)
theorem mb_Ra_init : Cond.code m_Ra_init.1 m_Ra_init.2.1 m_Ra_init.2.2.1 m_Ra_init.2.2.2.1 ∈ am_tbl := am_in1 174 (by decide +kernel) (by decide +kernel)
theorem mz_Ra_init : plainFor m_Ra_init.1 = true ∧ (m_Ra_init.1.cls ≠ "java/lang/invoke/MethodHandle" ∧ m_Ra_init.1.cls ≠ "java/lang/invoke/VarHandle" ∧ (parseMethodDescriptor m_Ra_init.1.desc).map (fun d => d.parameters.length) = some 2) := by decide +kernel
theorem mi_Ra_init : Cond.instanceMethod m_Ra_init.1 ∈ am_tbl := am_in1 173 (by decide +kernel) (by decide +kernel)
theorem mb_Ft_init : Cond.code m_Ft_init.1 m_Ft_init.2.1 m_Ft_init.2.2.1 m_Ft_init.2.2.2.1 ∈ am_tbl := am_in1 203 (by decide +kernel) (by decide +kernel)
theorem mz_Ft_init : plainFor m_Ft_init.1 = true ∧ (m_Ft_init.1.cls ≠ "java/lang/invoke/MethodHandle" ∧ m_Ft_init.1.cls ≠ "java/lang/invoke/VarHandle" ∧ (parseMethodDescriptor m_Ft_init.1.desc).map (fun d => d.parameters.length) = some 2) := by decide +kernel
theorem mi_Ft_init : Cond.instanceMethod m_Ft_init.1 ∈ am_tbl := am_in1 202 (by decide +kernel) (by decide +kernel)
theorem mb_Pr_init : Cond.code m_Pr_init.1 m_Pr_init.2.1 m_Pr_init.2.2.1 m_Pr_init.2.2.2.1 ∈ am_tbl := am_in1 238 (by decide +kernel) (by decide +kernel)
theorem mz_Pr_init : plainFor m_Pr_init.1 = true ∧ (m_Pr_init.1.cls ≠ "java/lang/invoke/MethodHandle" ∧ m_Pr_init.1.cls ≠ "java/lang/invoke/VarHandle" ∧ (parseMethodDescriptor m_Pr_init.1.desc).map (fun d => d.parameters.length) = some 2) := by decide +kernel
theorem mi_Pr_init : Cond.instanceMethod m_Pr_init.1 ∈ am_tbl := am_in1 237 (by decide +kernel) (by decide +kernel)
theorem mb_Re_init : Cond.code m_Re_init.1 m_Re_init.2.1 m_Re_init.2.2.1 m_Re_init.2.2.2.1 ∈ am_tbl := am_in2 28 (by decide +kernel) (by decide +kernel)
theorem mz_Re_init : plainFor m_Re_init.1 = true ∧ (m_Re_init.1.cls ≠ "java/lang/invoke/MethodHandle" ∧ m_Re_init.1.cls ≠ "java/lang/invoke/VarHandle" ∧ (parseMethodDescriptor m_Re_init.1.desc).map (fun d => d.parameters.length) = some 3) := by decide +kernel
theorem mi_Re_init : Cond.instanceMethod m_Re_init.1 ∈ am_tbl := am_in2 27 (by decide +kernel) (by decide +kernel)
theorem mb_Ba_init : Cond.code m_Ba_init.1 m_Ba_init.2.1 m_Ba_init.2.2.1 m_Ba_init.2.2.2.1 ∈ am_tbl := am_in2 34 (by decide +kernel) (by decide +kernel)
theorem mz_Ba_init : plainFor m_Ba_init.1 = true ∧ (m_Ba_init.1.cls ≠ "java/lang/invoke/MethodHandle" ∧ m_Ba_init.1.cls ≠ "java/lang/invoke/VarHandle" ∧ (parseMethodDescriptor m_Ba_init.1.desc).map (fun d => d.parameters.length) = some 0) := by decide +kernel
theorem mi_Ba_init : Cond.instanceMethod m_Ba_init.1 ∈ am_tbl := am_in2 33 (by decide +kernel) (by decide +kernel)
theorem mb_Fi_init : Cond.code m_Fi_init.1 m_Fi_init.2.1 m_Fi_init.2.2.1 m_Fi_init.2.2.2.1 ∈ am_tbl := am_in2 86 (by decide +kernel) (by decide +kernel)
theorem mz_Fi_init : plainFor m_Fi_init.1 = true ∧ (m_Fi_init.1.cls ≠ "java/lang/invoke/MethodHandle" ∧ m_Fi_init.1.cls ≠ "java/lang/invoke/VarHandle" ∧ (parseMethodDescriptor m_Fi_init.1.desc).map (fun d => d.parameters.length) = some 2) := by decide +kernel
theorem mi_Fi_init : Cond.instanceMethod m_Fi_init.1 ∈ am_tbl := am_in2 85 (by decide +kernel) (by decide +kernel)
theorem mb_Sc_init : Cond.code m_Sc_init.1 m_Sc_init.2.1 m_Sc_init.2.2.1 m_Sc_init.2.2.2.1 ∈ am_tbl := am_in2 116 (by decide +kernel) (by decide +kernel)
theorem mz_Sc_init : plainFor m_Sc_init.1 = true ∧ (m_Sc_init.1.cls ≠ "java/lang/invoke/MethodHandle" ∧ m_Sc_init.1.cls ≠ "java/lang/invoke/VarHandle" ∧ (parseMethodDescriptor m_Sc_init.1.desc).map (fun d => d.parameters.length) = some 2) := by decide +kernel
theorem mi_Sc_init : Cond.instanceMethod m_Sc_init.1 ∈ am_tbl := am_in2 115 (by decide +kernel) (by decide +kernel)
theorem mb_Me_init : Cond.code m_Me_init.1 m_Me_init.2.1 m_Me_init.2.2.1 m_Me_init.2.2.2.1 ∈ am_tbl := am_in2 164 (by decide +kernel) (by decide +kernel)
theorem mz_Me_init : plainFor m_Me_init.1 = true ∧ (m_Me_init.1.cls ≠ "java/lang/invoke/MethodHandle" ∧ m_Me_init.1.cls ≠ "java/lang/invoke/VarHandle" ∧ (parseMethodDescriptor m_Me_init.1.desc).map (fun d => d.parameters.length) = some 2) := by decide +kernel
theorem mi_Me_init : Cond.instanceMethod m_Me_init.1 ∈ am_tbl := am_in2 163 (by decide +kernel) (by decide +kernel)
theorem mb_Sp_ground : Cond.code m_Sp_ground.1 m_Sp_ground.2.1 m_Sp_ground.2.2.1 m_Sp_ground.2.2.2.1 ∈ am_tbl := am_in2 216 (by decide +kernel) (by decide +kernel)
theorem mz_Sp_ground : plainFor m_Sp_ground.1 = true ∧ (m_Sp_ground.1.cls ≠ "java/lang/invoke/MethodHandle" ∧ m_Sp_ground.1.cls ≠ "java/lang/invoke/VarHandle" ∧ (parseMethodDescriptor m_Sp_ground.1.desc).map (fun d => d.parameters.length) = some 2) := by decide +kernel
theorem mi_Sp_ground : Cond.instanceMethod m_Sp_ground.1 ∈ am_tbl := am_in2 214 (by decide +kernel) (by decide +kernel)
theorem se_Sp_ground : Cond.selects m_Sp_ground.1.cls m_Sp_ground.1 m_Sp_ground.1 ∈ am_tbl := am_in2 215 (by decide +kernel) (by decide +kernel)
theorem mb_Sp_isWithin : Cond.code m_Sp_isWithin.1 m_Sp_isWithin.2.1 m_Sp_isWithin.2.2.1 m_Sp_isWithin.2.2.2.1 ∈ am_tbl := am_in2 219 (by decide +kernel) (by decide +kernel)
theorem mz_Sp_isWithin : plainFor m_Sp_isWithin.1 = true ∧ (m_Sp_isWithin.1.cls ≠ "java/lang/invoke/MethodHandle" ∧ m_Sp_isWithin.1.cls ≠ "java/lang/invoke/VarHandle" ∧ (parseMethodDescriptor m_Sp_isWithin.1.desc).map (fun d => d.parameters.length) = some 3) := by decide +kernel
theorem ms_Sp_isWithin : Cond.static m_Sp_isWithin.1 ∈ am_tbl := am_in2 218 (by decide +kernel) (by decide +kernel)
theorem mb_Bo_forgetAll : Cond.code m_Bo_forgetAll.1 m_Bo_forgetAll.2.1 m_Bo_forgetAll.2.2.1 m_Bo_forgetAll.2.2.2.1 ∈ am_tbl := am_in2 223 (by decide +kernel) (by decide +kernel)
theorem mz_Bo_forgetAll : plainFor m_Bo_forgetAll.1 = true ∧ (m_Bo_forgetAll.1.cls ≠ "java/lang/invoke/MethodHandle" ∧ m_Bo_forgetAll.1.cls ≠ "java/lang/invoke/VarHandle" ∧ (parseMethodDescriptor m_Bo_forgetAll.1.desc).map (fun d => d.parameters.length) = some 0) := by decide +kernel
theorem mi_Bo_forgetAll : Cond.instanceMethod m_Bo_forgetAll.1 ∈ am_tbl := am_in2 221 (by decide +kernel) (by decide +kernel)
theorem se_Bo_forgetAll : Cond.selects m_Bo_forgetAll.1.cls m_Bo_forgetAll.1 m_Bo_forgetAll.1 ∈ am_tbl := am_in2 222 (by decide +kernel) (by decide +kernel)
theorem mb_Sp_ratio : Cond.code m_Sp_ratio.1 m_Sp_ratio.2.1 m_Sp_ratio.2.2.1 m_Sp_ratio.2.2.2.1 ∈ am_tbl := am_in2 227 (by decide +kernel) (by decide +kernel)
theorem mz_Sp_ratio : plainFor m_Sp_ratio.1 = true ∧ (m_Sp_ratio.1.cls ≠ "java/lang/invoke/MethodHandle" ∧ m_Sp_ratio.1.cls ≠ "java/lang/invoke/VarHandle" ∧ (parseMethodDescriptor m_Sp_ratio.1.desc).map (fun d => d.parameters.length) = some 1) := by decide +kernel
theorem mi_Sp_ratio : Cond.instanceMethod m_Sp_ratio.1 ∈ am_tbl := am_in2 225 (by decide +kernel) (by decide +kernel)
theorem se_Sp_ratio : Cond.selects m_Sp_ratio.1.cls m_Sp_ratio.1 m_Sp_ratio.1 ∈ am_tbl := am_in2 226 (by decide +kernel) (by decide +kernel)
theorem mb_Sp_slow : Cond.code m_Sp_slow.1 m_Sp_slow.2.1 m_Sp_slow.2.2.1 m_Sp_slow.2.2.2.1 ∈ am_tbl := am_in2 231 (by decide +kernel) (by decide +kernel)
theorem mz_Sp_slow : plainFor m_Sp_slow.1 = true ∧ (m_Sp_slow.1.cls ≠ "java/lang/invoke/MethodHandle" ∧ m_Sp_slow.1.cls ≠ "java/lang/invoke/VarHandle" ∧ (parseMethodDescriptor m_Sp_slow.1.desc).map (fun d => d.parameters.length) = some 2) := by decide +kernel
theorem mi_Sp_slow : Cond.instanceMethod m_Sp_slow.1 ∈ am_tbl := am_in2 229 (by decide +kernel) (by decide +kernel)
theorem se_Sp_slow : Cond.selects m_Sp_slow.1.cls m_Sp_slow.1 m_Sp_slow.1 ∈ am_tbl := am_in2 230 (by decide +kernel) (by decide +kernel)
theorem mb_Sp_isBlock : Cond.code m_Sp_isBlock.1 m_Sp_isBlock.2.1 m_Sp_isBlock.2.2.1 m_Sp_isBlock.2.2.2.1 ∈ am_tbl := am_in2 235 (by decide +kernel) (by decide +kernel)
theorem mz_Sp_isBlock : plainFor m_Sp_isBlock.1 = true ∧ (m_Sp_isBlock.1.cls ≠ "java/lang/invoke/MethodHandle" ∧ m_Sp_isBlock.1.cls ≠ "java/lang/invoke/VarHandle" ∧ (parseMethodDescriptor m_Sp_isBlock.1.desc).map (fun d => d.parameters.length) = some 1) := by decide +kernel
theorem mi_Sp_isBlock : Cond.instanceMethod m_Sp_isBlock.1 ∈ am_tbl := am_in2 234 (by decide +kernel) (by decide +kernel)
theorem se_Sp_isBlock : Cond.selects m_Sp_isBlock.1.cls m_Sp_isBlock.1 m_Sp_isBlock.1 ∈ am_tbl := am_inS (q := (⟨"ShakePictures", "isBlock", "(I)Z"⟩, 9)) 0 (by decide +kernel)
theorem mb_Sp_split : Cond.code m_Sp_split.1 m_Sp_split.2.1 m_Sp_split.2.2.1 m_Sp_split.2.2.2.1 ∈ am_tbl := am_in2 239 (by decide +kernel) (by decide +kernel)
theorem mz_Sp_split : plainFor m_Sp_split.1 = true ∧ (m_Sp_split.1.cls ≠ "java/lang/invoke/MethodHandle" ∧ m_Sp_split.1.cls ≠ "java/lang/invoke/VarHandle" ∧ (parseMethodDescriptor m_Sp_split.1.desc).map (fun d => d.parameters.length) = some 2) := by decide +kernel
theorem mi_Sp_split : Cond.instanceMethod m_Sp_split.1 ∈ am_tbl := am_in2 237 (by decide +kernel) (by decide +kernel)
theorem se_Sp_split : Cond.selects m_Sp_split.1.cls m_Sp_split.1 m_Sp_split.1 ∈ am_tbl := am_in2 238 (by decide +kernel) (by decide +kernel)
theorem mb_Gr_allCells : Cond.code m_Gr_allCells.1 m_Gr_allCells.2.1 m_Gr_allCells.2.2.1 m_Gr_allCells.2.2.2.1 ∈ am_tbl := am_in3 3 (by decide +kernel) (by decide +kernel)
theorem mz_Gr_allCells : plainFor m_Gr_allCells.1 = true ∧ (m_Gr_allCells.1.cls ≠ "java/lang/invoke/MethodHandle" ∧ m_Gr_allCells.1.cls ≠ "java/lang/invoke/VarHandle" ∧ (parseMethodDescriptor m_Gr_allCells.1.desc).map (fun d => d.parameters.length) = some 0) := by decide +kernel
theorem mi_Gr_allCells : Cond.instanceMethod m_Gr_allCells.1 ∈ am_tbl := am_in3 1 (by decide +kernel) (by decide +kernel)
theorem se_Gr_allCells : Cond.selects m_Gr_allCells.1.cls m_Gr_allCells.1 m_Gr_allCells.1 ∈ am_tbl := am_in3 2 (by decide +kernel) (by decide +kernel)
theorem mb_Gr_splitBlock : Cond.code m_Gr_splitBlock.1 m_Gr_splitBlock.2.1 m_Gr_splitBlock.2.2.1 m_Gr_splitBlock.2.2.2.1 ∈ am_tbl := am_in3 7 (by decide +kernel) (by decide +kernel)
theorem mz_Gr_splitBlock : plainFor m_Gr_splitBlock.1 = true ∧ (m_Gr_splitBlock.1.cls ≠ "java/lang/invoke/MethodHandle" ∧ m_Gr_splitBlock.1.cls ≠ "java/lang/invoke/VarHandle" ∧ (parseMethodDescriptor m_Gr_splitBlock.1.desc).map (fun d => d.parameters.length) = some 2) := by decide +kernel
theorem mi_Gr_splitBlock : Cond.instanceMethod m_Gr_splitBlock.1 ∈ am_tbl := am_in3 5 (by decide +kernel) (by decide +kernel)
theorem se_Gr_splitBlock : Cond.selects m_Gr_splitBlock.1.cls m_Gr_splitBlock.1 m_Gr_splitBlock.1 ∈ am_tbl := am_in3 6 (by decide +kernel) (by decide +kernel)
theorem mb_Gr_cellsOf : Cond.code m_Gr_cellsOf.1 m_Gr_cellsOf.2.1 m_Gr_cellsOf.2.2.1 m_Gr_cellsOf.2.2.2.1 ∈ am_tbl := am_in3 11 (by decide +kernel) (by decide +kernel)
theorem mz_Gr_cellsOf : plainFor m_Gr_cellsOf.1 = true ∧ (m_Gr_cellsOf.1.cls ≠ "java/lang/invoke/MethodHandle" ∧ m_Gr_cellsOf.1.cls ≠ "java/lang/invoke/VarHandle" ∧ (parseMethodDescriptor m_Gr_cellsOf.1.desc).map (fun d => d.parameters.length) = some 1) := by decide +kernel
theorem mi_Gr_cellsOf : Cond.instanceMethod m_Gr_cellsOf.1 ∈ am_tbl := am_in3 9 (by decide +kernel) (by decide +kernel)
theorem se_Gr_cellsOf : Cond.selects m_Gr_cellsOf.1.cls m_Gr_cellsOf.1 m_Gr_cellsOf.1 ∈ am_tbl := am_in3 10 (by decide +kernel) (by decide +kernel)
theorem mb_Gr_moveCells : Cond.code m_Gr_moveCells.1 m_Gr_moveCells.2.1 m_Gr_moveCells.2.2.1 m_Gr_moveCells.2.2.2.1 ∈ am_tbl := am_in3 15 (by decide +kernel) (by decide +kernel)
theorem mz_Gr_moveCells : plainFor m_Gr_moveCells.1 = true ∧ (m_Gr_moveCells.1.cls ≠ "java/lang/invoke/MethodHandle" ∧ m_Gr_moveCells.1.cls ≠ "java/lang/invoke/VarHandle" ∧ (parseMethodDescriptor m_Gr_moveCells.1.desc).map (fun d => d.parameters.length) = some 3) := by decide +kernel
theorem mi_Gr_moveCells : Cond.instanceMethod m_Gr_moveCells.1 ∈ am_tbl := am_in3 13 (by decide +kernel) (by decide +kernel)
theorem se_Gr_moveCells : Cond.selects m_Gr_moveCells.1.cls m_Gr_moveCells.1 m_Gr_moveCells.1 ∈ am_tbl := am_in3 14 (by decide +kernel) (by decide +kernel)
theorem mb_Sp_join : Cond.code m_Sp_join.1 m_Sp_join.2.1 m_Sp_join.2.2.1 m_Sp_join.2.2.2.1 ∈ am_tbl := am_in3 19 (by decide +kernel) (by decide +kernel)
theorem mz_Sp_join : plainFor m_Sp_join.1 = true ∧ (m_Sp_join.1.cls ≠ "java/lang/invoke/MethodHandle" ∧ m_Sp_join.1.cls ≠ "java/lang/invoke/VarHandle" ∧ (parseMethodDescriptor m_Sp_join.1.desc).map (fun d => d.parameters.length) = some 2) := by decide +kernel
theorem mi_Sp_join : Cond.instanceMethod m_Sp_join.1 ∈ am_tbl := am_in3 17 (by decide +kernel) (by decide +kernel)
theorem se_Sp_join : Cond.selects m_Sp_join.1.cls m_Sp_join.1 m_Sp_join.1 ∈ am_tbl := am_in3 18 (by decide +kernel) (by decide +kernel)
theorem mb_Gr_cellsIn : Cond.code m_Gr_cellsIn.1 m_Gr_cellsIn.2.1 m_Gr_cellsIn.2.2.1 m_Gr_cellsIn.2.2.2.1 ∈ am_tbl := am_in3 24 (by decide +kernel) (by decide +kernel)
theorem mz_Gr_cellsIn : plainFor m_Gr_cellsIn.1 = true ∧ (m_Gr_cellsIn.1.cls ≠ "java/lang/invoke/MethodHandle" ∧ m_Gr_cellsIn.1.cls ≠ "java/lang/invoke/VarHandle" ∧ (parseMethodDescriptor m_Gr_cellsIn.1.desc).map (fun d => d.parameters.length) = some 1) := by decide +kernel
theorem mi_Gr_cellsIn : Cond.instanceMethod m_Gr_cellsIn.1 ∈ am_tbl := am_in3 22 (by decide +kernel) (by decide +kernel)
theorem se_Gr_cellsIn : Cond.selects m_Gr_cellsIn.1.cls m_Gr_cellsIn.1 m_Gr_cellsIn.1 ∈ am_tbl := am_in3 23 (by decide +kernel) (by decide +kernel)
theorem mb_In_bitCount : Cond.code m_In_bitCount.1 m_In_bitCount.2.1 m_In_bitCount.2.2.1 m_In_bitCount.2.2.2.1 ∈ am_tbl := am_in3 27 (by decide +kernel) (by decide +kernel)
theorem mz_In_bitCount : plainFor m_In_bitCount.1 = true ∧ (m_In_bitCount.1.cls ≠ "java/lang/invoke/MethodHandle" ∧ m_In_bitCount.1.cls ≠ "java/lang/invoke/VarHandle" ∧ (parseMethodDescriptor m_In_bitCount.1.desc).map (fun d => d.parameters.length) = some 1) := by decide +kernel
theorem ms_In_bitCount : Cond.static m_In_bitCount.1 ∈ am_tbl := am_in3 26 (by decide +kernel) (by decide +kernel)
theorem mb_Sp_at : Cond.code m_Sp_at.1 m_Sp_at.2.1 m_Sp_at.2.2.1 m_Sp_at.2.2.2.1 ∈ am_tbl := am_in3 34 (by decide +kernel) (by decide +kernel)
theorem mz_Sp_at : plainFor m_Sp_at.1 = true ∧ (m_Sp_at.1.cls ≠ "java/lang/invoke/MethodHandle" ∧ m_Sp_at.1.cls ≠ "java/lang/invoke/VarHandle" ∧ (parseMethodDescriptor m_Sp_at.1.desc).map (fun d => d.parameters.length) = some 2) := by decide +kernel
theorem mi_Sp_at : Cond.instanceMethod m_Sp_at.1 ∈ am_tbl := am_in3 32 (by decide +kernel) (by decide +kernel)
theorem se_Sp_at : Cond.selects m_Sp_at.1.cls m_Sp_at.1 m_Sp_at.1 ∈ am_tbl := am_in3 33 (by decide +kernel) (by decide +kernel)
theorem mb_Sp_isCell : Cond.code m_Sp_isCell.1 m_Sp_isCell.2.1 m_Sp_isCell.2.2.1 m_Sp_isCell.2.2.2.1 ∈ am_tbl := am_in3 38 (by decide +kernel) (by decide +kernel)
theorem mz_Sp_isCell : plainFor m_Sp_isCell.1 = true ∧ (m_Sp_isCell.1.cls ≠ "java/lang/invoke/MethodHandle" ∧ m_Sp_isCell.1.cls ≠ "java/lang/invoke/VarHandle" ∧ (parseMethodDescriptor m_Sp_isCell.1.desc).map (fun d => d.parameters.length) = some 1) := by decide +kernel
theorem mi_Sp_isCell : Cond.instanceMethod m_Sp_isCell.1 ∈ am_tbl := am_in3 37 (by decide +kernel) (by decide +kernel)
theorem se_Sp_isCell : Cond.selects m_Sp_isCell.1.cls m_Sp_isCell.1 m_Sp_isCell.1 ∈ am_tbl := am_inS (q := (⟨"ShakePictures", "isCell", "(I)Z"⟩, 9)) 1 (by decide +kernel)
theorem mb_Sp_time : Cond.code m_Sp_time.1 m_Sp_time.2.1 m_Sp_time.2.2.1 m_Sp_time.2.2.2.1 ∈ am_tbl := am_in3 42 (by decide +kernel) (by decide +kernel)
theorem mz_Sp_time : plainFor m_Sp_time.1 = true ∧ (m_Sp_time.1.cls ≠ "java/lang/invoke/MethodHandle" ∧ m_Sp_time.1.cls ≠ "java/lang/invoke/VarHandle" ∧ (parseMethodDescriptor m_Sp_time.1.desc).map (fun d => d.parameters.length) = some 3) := by decide +kernel
theorem mi_Sp_time : Cond.instanceMethod m_Sp_time.1 ∈ am_tbl := am_in3 40 (by decide +kernel) (by decide +kernel)
theorem se_Sp_time : Cond.selects m_Sp_time.1.cls m_Sp_time.1 m_Sp_time.1 ∈ am_tbl := am_in3 41 (by decide +kernel) (by decide +kernel)
theorem mb_Sp_isKind : Cond.code m_Sp_isKind.1 m_Sp_isKind.2.1 m_Sp_isKind.2.2.1 m_Sp_isKind.2.2.2.1 ∈ am_tbl := am_in3 45 (by decide +kernel) (by decide +kernel)
theorem mz_Sp_isKind : plainFor m_Sp_isKind.1 = true ∧ (m_Sp_isKind.1.cls ≠ "java/lang/invoke/MethodHandle" ∧ m_Sp_isKind.1.cls ≠ "java/lang/invoke/VarHandle" ∧ (parseMethodDescriptor m_Sp_isKind.1.desc).map (fun d => d.parameters.length) = some 1) := by decide +kernel
theorem ms_Sp_isKind : Cond.static m_Sp_isKind.1 ∈ am_tbl := am_in3 44 (by decide +kernel) (by decide +kernel)
theorem mb_Gr_spread : Cond.code m_Gr_spread.1 m_Gr_spread.2.1 m_Gr_spread.2.2.1 m_Gr_spread.2.2.2.1 ∈ am_tbl := am_in3 49 (by decide +kernel) (by decide +kernel)
theorem mz_Gr_spread : plainFor m_Gr_spread.1 = true ∧ (m_Gr_spread.1.cls ≠ "java/lang/invoke/MethodHandle" ∧ m_Gr_spread.1.cls ≠ "java/lang/invoke/VarHandle" ∧ (parseMethodDescriptor m_Gr_spread.1.desc).map (fun d => d.parameters.length) = some 2) := by decide +kernel
theorem mi_Gr_spread : Cond.instanceMethod m_Gr_spread.1 ∈ am_tbl := am_in3 47 (by decide +kernel) (by decide +kernel)
theorem se_Gr_spread : Cond.selects m_Gr_spread.1.cls m_Gr_spread.1 m_Gr_spread.1 ∈ am_tbl := am_in3 48 (by decide +kernel) (by decide +kernel)
theorem mb_Gr_price : Cond.code m_Gr_price.1 m_Gr_price.2.1 m_Gr_price.2.2.1 m_Gr_price.2.2.2.1 ∈ am_tbl := am_in3 53 (by decide +kernel) (by decide +kernel)
theorem mz_Gr_price : plainFor m_Gr_price.1 = true ∧ (m_Gr_price.1.cls ≠ "java/lang/invoke/MethodHandle" ∧ m_Gr_price.1.cls ≠ "java/lang/invoke/VarHandle" ∧ (parseMethodDescriptor m_Gr_price.1.desc).map (fun d => d.parameters.length) = some 2) := by decide +kernel
theorem mi_Gr_price : Cond.instanceMethod m_Gr_price.1 ∈ am_tbl := am_in3 51 (by decide +kernel) (by decide +kernel)
theorem se_Gr_price : Cond.selects m_Gr_price.1.cls m_Gr_price.1 m_Gr_price.1 ∈ am_tbl := am_in3 52 (by decide +kernel) (by decide +kernel)
theorem mb_Gr_pull : Cond.code m_Gr_pull.1 m_Gr_pull.2.1 m_Gr_pull.2.2.1 m_Gr_pull.2.2.2.1 ∈ am_tbl := am_in3 58 (by decide +kernel) (by decide +kernel)
theorem mz_Gr_pull : plainFor m_Gr_pull.1 = true ∧ (m_Gr_pull.1.cls ≠ "java/lang/invoke/MethodHandle" ∧ m_Gr_pull.1.cls ≠ "java/lang/invoke/VarHandle" ∧ (parseMethodDescriptor m_Gr_pull.1.desc).map (fun d => d.parameters.length) = some 1) := by decide +kernel
theorem mi_Gr_pull : Cond.instanceMethod m_Gr_pull.1 ∈ am_tbl := am_in3 57 (by decide +kernel) (by decide +kernel)
theorem se_Gr_pull : Cond.selects m_Gr_pull.1.cls m_Gr_pull.1 m_Gr_pull.1 ∈ am_tbl := am_inS (q := (⟨"ShakePictures$Ground", "pull", "(I)Z"⟩, 9)) 2 (by decide +kernel)
theorem mb_Sp_way : Cond.code m_Sp_way.1 m_Sp_way.2.1 m_Sp_way.2.2.1 m_Sp_way.2.2.2.1 ∈ am_tbl := am_in3 62 (by decide +kernel) (by decide +kernel)
theorem mz_Sp_way : plainFor m_Sp_way.1 = true ∧ (m_Sp_way.1.cls ≠ "java/lang/invoke/MethodHandle" ∧ m_Sp_way.1.cls ≠ "java/lang/invoke/VarHandle" ∧ (parseMethodDescriptor m_Sp_way.1.desc).map (fun d => d.parameters.length) = some 4) := by decide +kernel
theorem mi_Sp_way : Cond.instanceMethod m_Sp_way.1 ∈ am_tbl := am_in3 60 (by decide +kernel) (by decide +kernel)
theorem se_Sp_way : Cond.selects m_Sp_way.1.cls m_Sp_way.1 m_Sp_way.1 ∈ am_tbl := am_in3 61 (by decide +kernel) (by decide +kernel)
theorem mb_Gr_trace : Cond.code m_Gr_trace.1 m_Gr_trace.2.1 m_Gr_trace.2.2.1 m_Gr_trace.2.2.2.1 ∈ am_tbl := am_in3 66 (by decide +kernel) (by decide +kernel)
theorem mz_Gr_trace : plainFor m_Gr_trace.1 = true ∧ (m_Gr_trace.1.cls ≠ "java/lang/invoke/MethodHandle" ∧ m_Gr_trace.1.cls ≠ "java/lang/invoke/VarHandle" ∧ (parseMethodDescriptor m_Gr_trace.1.desc).map (fun d => d.parameters.length) = some 1) := by decide +kernel
theorem mi_Gr_trace : Cond.instanceMethod m_Gr_trace.1 ∈ am_tbl := am_in3 64 (by decide +kernel) (by decide +kernel)
theorem se_Gr_trace : Cond.selects m_Gr_trace.1.cls m_Gr_trace.1 m_Gr_trace.1 ∈ am_tbl := am_in3 65 (by decide +kernel) (by decide +kernel)
theorem mb_Gr_nextOnWay : Cond.code m_Gr_nextOnWay.1 m_Gr_nextOnWay.2.1 m_Gr_nextOnWay.2.2.1 m_Gr_nextOnWay.2.2.2.1 ∈ am_tbl := am_in3 70 (by decide +kernel) (by decide +kernel)
theorem mz_Gr_nextOnWay : plainFor m_Gr_nextOnWay.1 = true ∧ (m_Gr_nextOnWay.1.cls ≠ "java/lang/invoke/MethodHandle" ∧ m_Gr_nextOnWay.1.cls ≠ "java/lang/invoke/VarHandle" ∧ (parseMethodDescriptor m_Gr_nextOnWay.1.desc).map (fun d => d.parameters.length) = some 1) := by decide +kernel
theorem mi_Gr_nextOnWay : Cond.instanceMethod m_Gr_nextOnWay.1 ∈ am_tbl := am_in3 69 (by decide +kernel) (by decide +kernel)
theorem se_Gr_nextOnWay : Cond.selects m_Gr_nextOnWay.1.cls m_Gr_nextOnWay.1 m_Gr_nextOnWay.1 ∈ am_tbl := am_inS (q := (⟨"ShakePictures$Ground", "nextOnWay", "(I)I"⟩, 9)) 3 (by decide +kernel)
theorem mb_Sp_ear : Cond.code m_Sp_ear.1 m_Sp_ear.2.1 m_Sp_ear.2.2.1 m_Sp_ear.2.2.2.1 ∈ am_tbl := am_in3 74 (by decide +kernel) (by decide +kernel)
theorem mz_Sp_ear : plainFor m_Sp_ear.1 = true ∧ (m_Sp_ear.1.cls ≠ "java/lang/invoke/MethodHandle" ∧ m_Sp_ear.1.cls ≠ "java/lang/invoke/VarHandle" ∧ (parseMethodDescriptor m_Sp_ear.1.desc).map (fun d => d.parameters.length) = some 1) := by decide +kernel
theorem mi_Sp_ear : Cond.instanceMethod m_Sp_ear.1 ∈ am_tbl := am_in3 72 (by decide +kernel) (by decide +kernel)
theorem se_Sp_ear : Cond.selects m_Sp_ear.1.cls m_Sp_ear.1 m_Sp_ear.1 ∈ am_tbl := am_in3 73 (by decide +kernel) (by decide +kernel)
theorem mb_Bo_addEar : Cond.code m_Bo_addEar.1 m_Bo_addEar.2.1 m_Bo_addEar.2.2.1 m_Bo_addEar.2.2.2.1 ∈ am_tbl := am_in3 78 (by decide +kernel) (by decide +kernel)
theorem mz_Bo_addEar : plainFor m_Bo_addEar.1 = true ∧ (m_Bo_addEar.1.cls ≠ "java/lang/invoke/MethodHandle" ∧ m_Bo_addEar.1.cls ≠ "java/lang/invoke/VarHandle" ∧ (parseMethodDescriptor m_Bo_addEar.1.desc).map (fun d => d.parameters.length) = some 1) := by decide +kernel
theorem mi_Bo_addEar : Cond.instanceMethod m_Bo_addEar.1 ∈ am_tbl := am_in3 76 (by decide +kernel) (by decide +kernel)
theorem se_Bo_addEar : Cond.selects m_Bo_addEar.1.cls m_Bo_addEar.1 m_Bo_addEar.1 ∈ am_tbl := am_in3 77 (by decide +kernel) (by decide +kernel)
theorem mb_Sp_clock : Cond.code m_Sp_clock.1 m_Sp_clock.2.1 m_Sp_clock.2.2.1 m_Sp_clock.2.2.2.1 ∈ am_tbl := am_in3 82 (by decide +kernel) (by decide +kernel)
theorem mz_Sp_clock : plainFor m_Sp_clock.1 = true ∧ (m_Sp_clock.1.cls ≠ "java/lang/invoke/MethodHandle" ∧ m_Sp_clock.1.cls ≠ "java/lang/invoke/VarHandle" ∧ (parseMethodDescriptor m_Sp_clock.1.desc).map (fun d => d.parameters.length) = some 2) := by decide +kernel
theorem mi_Sp_clock : Cond.instanceMethod m_Sp_clock.1 ∈ am_tbl := am_in3 80 (by decide +kernel) (by decide +kernel)
theorem se_Sp_clock : Cond.selects m_Sp_clock.1.cls m_Sp_clock.1 m_Sp_clock.1 ∈ am_tbl := am_in3 81 (by decide +kernel) (by decide +kernel)
theorem mb_Sp_isEar : Cond.code m_Sp_isEar.1 m_Sp_isEar.2.1 m_Sp_isEar.2.2.1 m_Sp_isEar.2.2.2.1 ∈ am_tbl := am_in3 86 (by decide +kernel) (by decide +kernel)
theorem mz_Sp_isEar : plainFor m_Sp_isEar.1 = true ∧ (m_Sp_isEar.1.cls ≠ "java/lang/invoke/MethodHandle" ∧ m_Sp_isEar.1.cls ≠ "java/lang/invoke/VarHandle" ∧ (parseMethodDescriptor m_Sp_isEar.1.desc).map (fun d => d.parameters.length) = some 1) := by decide +kernel
theorem mi_Sp_isEar : Cond.instanceMethod m_Sp_isEar.1 ∈ am_tbl := am_in3 85 (by decide +kernel) (by decide +kernel)
theorem se_Sp_isEar : Cond.selects m_Sp_isEar.1.cls m_Sp_isEar.1 m_Sp_isEar.1 ∈ am_tbl := am_inS (q := (⟨"ShakePictures", "isEar", "(I)Z"⟩, 9)) 4 (by decide +kernel)
theorem mb_Sp_shake : Cond.code m_Sp_shake.1 m_Sp_shake.2.1 m_Sp_shake.2.2.1 m_Sp_shake.2.2.2.1 ∈ am_tbl := am_in3 90 (by decide +kernel) (by decide +kernel)
theorem mz_Sp_shake : plainFor m_Sp_shake.1 = true ∧ (m_Sp_shake.1.cls ≠ "java/lang/invoke/MethodHandle" ∧ m_Sp_shake.1.cls ≠ "java/lang/invoke/VarHandle" ∧ (parseMethodDescriptor m_Sp_shake.1.desc).map (fun d => d.parameters.length) = some 2) := by decide +kernel
theorem mi_Sp_shake : Cond.instanceMethod m_Sp_shake.1 ∈ am_tbl := am_in3 88 (by decide +kernel) (by decide +kernel)
theorem se_Sp_shake : Cond.selects m_Sp_shake.1.cls m_Sp_shake.1 m_Sp_shake.1 ∈ am_tbl := am_in3 89 (by decide +kernel) (by decide +kernel)
theorem mb_Bo_addShake : Cond.code m_Bo_addShake.1 m_Bo_addShake.2.1 m_Bo_addShake.2.2.1 m_Bo_addShake.2.2.2.1 ∈ am_tbl := am_in3 94 (by decide +kernel) (by decide +kernel)
theorem mz_Bo_addShake : plainFor m_Bo_addShake.1 = true ∧ (m_Bo_addShake.1.cls ≠ "java/lang/invoke/MethodHandle" ∧ m_Bo_addShake.1.cls ≠ "java/lang/invoke/VarHandle" ∧ (parseMethodDescriptor m_Bo_addShake.1.desc).map (fun d => d.parameters.length) = some 2) := by decide +kernel
theorem mi_Bo_addShake : Cond.instanceMethod m_Bo_addShake.1 ∈ am_tbl := am_in3 92 (by decide +kernel) (by decide +kernel)
theorem se_Bo_addShake : Cond.selects m_Bo_addShake.1.cls m_Bo_addShake.1 m_Bo_addShake.1 ∈ am_tbl := am_in3 93 (by decide +kernel) (by decide +kernel)
theorem mb_Bo_placeShake : Cond.code m_Bo_placeShake.1 m_Bo_placeShake.2.1 m_Bo_placeShake.2.2.1 m_Bo_placeShake.2.2.2.1 ∈ am_tbl := am_in3 98 (by decide +kernel) (by decide +kernel)
theorem mz_Bo_placeShake : plainFor m_Bo_placeShake.1 = true ∧ (m_Bo_placeShake.1.cls ≠ "java/lang/invoke/MethodHandle" ∧ m_Bo_placeShake.1.cls ≠ "java/lang/invoke/VarHandle" ∧ (parseMethodDescriptor m_Bo_placeShake.1.desc).map (fun d => d.parameters.length) = some 3) := by decide +kernel
theorem mi_Bo_placeShake : Cond.instanceMethod m_Bo_placeShake.1 ∈ am_tbl := am_in3 96 (by decide +kernel) (by decide +kernel)
theorem se_Bo_placeShake : Cond.selects m_Bo_placeShake.1.cls m_Bo_placeShake.1 m_Bo_placeShake.1 ∈ am_tbl := am_in3 97 (by decide +kernel) (by decide +kernel)
theorem mb_Sp_put : Cond.code m_Sp_put.1 m_Sp_put.2.1 m_Sp_put.2.2.1 m_Sp_put.2.2.2.1 ∈ am_tbl := am_in3 102 (by decide +kernel) (by decide +kernel)
theorem mz_Sp_put : plainFor m_Sp_put.1 = true ∧ (m_Sp_put.1.cls ≠ "java/lang/invoke/MethodHandle" ∧ m_Sp_put.1.cls ≠ "java/lang/invoke/VarHandle" ∧ (parseMethodDescriptor m_Sp_put.1.desc).map (fun d => d.parameters.length) = some 3) := by decide +kernel
theorem mi_Sp_put : Cond.instanceMethod m_Sp_put.1 ∈ am_tbl := am_in3 100 (by decide +kernel) (by decide +kernel)
theorem se_Sp_put : Cond.selects m_Sp_put.1.cls m_Sp_put.1 m_Sp_put.1 ∈ am_tbl := am_in3 101 (by decide +kernel) (by decide +kernel)
theorem mb_Sp_isShake : Cond.code m_Sp_isShake.1 m_Sp_isShake.2.1 m_Sp_isShake.2.2.1 m_Sp_isShake.2.2.2.1 ∈ am_tbl := am_in3 106 (by decide +kernel) (by decide +kernel)
theorem mz_Sp_isShake : plainFor m_Sp_isShake.1 = true ∧ (m_Sp_isShake.1.cls ≠ "java/lang/invoke/MethodHandle" ∧ m_Sp_isShake.1.cls ≠ "java/lang/invoke/VarHandle" ∧ (parseMethodDescriptor m_Sp_isShake.1.desc).map (fun d => d.parameters.length) = some 1) := by decide +kernel
theorem mi_Sp_isShake : Cond.instanceMethod m_Sp_isShake.1 ∈ am_tbl := am_in3 105 (by decide +kernel) (by decide +kernel)
theorem se_Sp_isShake : Cond.selects m_Sp_isShake.1.cls m_Sp_isShake.1 m_Sp_isShake.1 ∈ am_tbl := am_inS (q := (⟨"ShakePictures", "isShake", "(I)Z"⟩, 9)) 5 (by decide +kernel)
theorem mb_Sp_pick : Cond.code m_Sp_pick.1 m_Sp_pick.2.1 m_Sp_pick.2.2.1 m_Sp_pick.2.2.2.1 ∈ am_tbl := am_in3 111 (by decide +kernel) (by decide +kernel)
theorem mz_Sp_pick : plainFor m_Sp_pick.1 = true ∧ (m_Sp_pick.1.cls ≠ "java/lang/invoke/MethodHandle" ∧ m_Sp_pick.1.cls ≠ "java/lang/invoke/VarHandle" ∧ (parseMethodDescriptor m_Sp_pick.1.desc).map (fun d => d.parameters.length) = some 5) := by decide +kernel
theorem mi_Sp_pick : Cond.instanceMethod m_Sp_pick.1 ∈ am_tbl := am_in3 109 (by decide +kernel) (by decide +kernel)
theorem se_Sp_pick : Cond.selects m_Sp_pick.1.cls m_Sp_pick.1 m_Sp_pick.1 ∈ am_tbl := am_in3 110 (by decide +kernel) (by decide +kernel)
theorem mb_Sp_isSpan : Cond.code m_Sp_isSpan.1 m_Sp_isSpan.2.1 m_Sp_isSpan.2.2.1 m_Sp_isSpan.2.2.2.1 ∈ am_tbl := am_in3 114 (by decide +kernel) (by decide +kernel)
theorem mz_Sp_isSpan : plainFor m_Sp_isSpan.1 = true ∧ (m_Sp_isSpan.1.cls ≠ "java/lang/invoke/MethodHandle" ∧ m_Sp_isSpan.1.cls ≠ "java/lang/invoke/VarHandle" ∧ (parseMethodDescriptor m_Sp_isSpan.1.desc).map (fun d => d.parameters.length) = some 2) := by decide +kernel
theorem ms_Sp_isSpan : Cond.static m_Sp_isSpan.1 ∈ am_tbl := am_in3 113 (by decide +kernel) (by decide +kernel)
theorem mb_Bo_addPick : Cond.code m_Bo_addPick.1 m_Bo_addPick.2.1 m_Bo_addPick.2.2.1 m_Bo_addPick.2.2.2.1 ∈ am_tbl := am_in3 118 (by decide +kernel) (by decide +kernel)
theorem mz_Bo_addPick : plainFor m_Bo_addPick.1 = true ∧ (m_Bo_addPick.1.cls ≠ "java/lang/invoke/MethodHandle" ∧ m_Bo_addPick.1.cls ≠ "java/lang/invoke/VarHandle" ∧ (parseMethodDescriptor m_Bo_addPick.1.desc).map (fun d => d.parameters.length) = some 3) := by decide +kernel
theorem mi_Bo_addPick : Cond.instanceMethod m_Bo_addPick.1 ∈ am_tbl := am_in3 116 (by decide +kernel) (by decide +kernel)
theorem se_Bo_addPick : Cond.selects m_Bo_addPick.1.cls m_Bo_addPick.1 m_Bo_addPick.1 ∈ am_tbl := am_in3 117 (by decide +kernel) (by decide +kernel)
theorem mb_Bo_addTelling : Cond.code m_Bo_addTelling.1 m_Bo_addTelling.2.1 m_Bo_addTelling.2.2.1 m_Bo_addTelling.2.2.2.1 ∈ am_tbl := am_in3 122 (by decide +kernel) (by decide +kernel)
theorem mz_Bo_addTelling : plainFor m_Bo_addTelling.1 = true ∧ (m_Bo_addTelling.1.cls ≠ "java/lang/invoke/MethodHandle" ∧ m_Bo_addTelling.1.cls ≠ "java/lang/invoke/VarHandle" ∧ (parseMethodDescriptor m_Bo_addTelling.1.desc).map (fun d => d.parameters.length) = some 3) := by decide +kernel
theorem mi_Bo_addTelling : Cond.instanceMethod m_Bo_addTelling.1 ∈ am_tbl := am_in3 120 (by decide +kernel) (by decide +kernel)
theorem se_Bo_addTelling : Cond.selects m_Bo_addTelling.1.cls m_Bo_addTelling.1 m_Bo_addTelling.1 ∈ am_tbl := am_in3 121 (by decide +kernel) (by decide +kernel)
theorem mb_Sp_tell : Cond.code m_Sp_tell.1 m_Sp_tell.2.1 m_Sp_tell.2.2.1 m_Sp_tell.2.2.2.1 ∈ am_tbl := am_in3 126 (by decide +kernel) (by decide +kernel)
theorem mz_Sp_tell : plainFor m_Sp_tell.1 = true ∧ (m_Sp_tell.1.cls ≠ "java/lang/invoke/MethodHandle" ∧ m_Sp_tell.1.cls ≠ "java/lang/invoke/VarHandle" ∧ (parseMethodDescriptor m_Sp_tell.1.desc).map (fun d => d.parameters.length) = some 3) := by decide +kernel
theorem mi_Sp_tell : Cond.instanceMethod m_Sp_tell.1 ∈ am_tbl := am_in3 124 (by decide +kernel) (by decide +kernel)
theorem se_Sp_tell : Cond.selects m_Sp_tell.1.cls m_Sp_tell.1 m_Sp_tell.1 ∈ am_tbl := am_in3 125 (by decide +kernel) (by decide +kernel)
theorem mb_Sp_isPick : Cond.code m_Sp_isPick.1 m_Sp_isPick.2.1 m_Sp_isPick.2.2.1 m_Sp_isPick.2.2.2.1 ∈ am_tbl := am_in3 130 (by decide +kernel) (by decide +kernel)
theorem mz_Sp_isPick : plainFor m_Sp_isPick.1 = true ∧ (m_Sp_isPick.1.cls ≠ "java/lang/invoke/MethodHandle" ∧ m_Sp_isPick.1.cls ≠ "java/lang/invoke/VarHandle" ∧ (parseMethodDescriptor m_Sp_isPick.1.desc).map (fun d => d.parameters.length) = some 1) := by decide +kernel
theorem mi_Sp_isPick : Cond.instanceMethod m_Sp_isPick.1 ∈ am_tbl := am_in3 129 (by decide +kernel) (by decide +kernel)
theorem se_Sp_isPick : Cond.selects m_Sp_isPick.1.cls m_Sp_isPick.1 m_Sp_isPick.1 ∈ am_tbl := am_inS (q := (⟨"ShakePictures", "isPick", "(I)Z"⟩, 9)) 6 (by decide +kernel)
theorem mb_Sp_days : Cond.code m_Sp_days.1 m_Sp_days.2.1 m_Sp_days.2.2.1 m_Sp_days.2.2.2.1 ∈ am_tbl := am_in3 134 (by decide +kernel) (by decide +kernel)
theorem mz_Sp_days : plainFor m_Sp_days.1 = true ∧ (m_Sp_days.1.cls ≠ "java/lang/invoke/MethodHandle" ∧ m_Sp_days.1.cls ≠ "java/lang/invoke/VarHandle" ∧ (parseMethodDescriptor m_Sp_days.1.desc).map (fun d => d.parameters.length) = some 1) := by decide +kernel
theorem mi_Sp_days : Cond.instanceMethod m_Sp_days.1 ∈ am_tbl := am_in3 132 (by decide +kernel) (by decide +kernel)
theorem se_Sp_days : Cond.selects m_Sp_days.1.cls m_Sp_days.1 m_Sp_days.1 ∈ am_tbl := am_in3 133 (by decide +kernel) (by decide +kernel)
theorem mb_Sp_of : Cond.code m_Sp_of.1 m_Sp_of.2.1 m_Sp_of.2.2.1 m_Sp_of.2.2.2.1 ∈ am_tbl := am_in3 138 (by decide +kernel) (by decide +kernel)
theorem mz_Sp_of : plainFor m_Sp_of.1 = true ∧ (m_Sp_of.1.cls ≠ "java/lang/invoke/MethodHandle" ∧ m_Sp_of.1.cls ≠ "java/lang/invoke/VarHandle" ∧ (parseMethodDescriptor m_Sp_of.1.desc).map (fun d => d.parameters.length) = some 2) := by decide +kernel
theorem mi_Sp_of : Cond.instanceMethod m_Sp_of.1 ∈ am_tbl := am_in3 136 (by decide +kernel) (by decide +kernel)
theorem se_Sp_of : Cond.selects m_Sp_of.1.cls m_Sp_of.1 m_Sp_of.1 ∈ am_tbl := am_in3 137 (by decide +kernel) (by decide +kernel)
theorem mb_Ft_foretold : Cond.code m_Ft_foretold.1 m_Ft_foretold.2.1 m_Ft_foretold.2.2.1 m_Ft_foretold.2.2.2.1 ∈ am_tbl := am_in3 142 (by decide +kernel) (by decide +kernel)
theorem mz_Ft_foretold : plainFor m_Ft_foretold.1 = true ∧ (m_Ft_foretold.1.cls ≠ "java/lang/invoke/MethodHandle" ∧ m_Ft_foretold.1.cls ≠ "java/lang/invoke/VarHandle" ∧ (parseMethodDescriptor m_Ft_foretold.1.desc).map (fun d => d.parameters.length) = some 1) := by decide +kernel
theorem mi_Ft_foretold : Cond.instanceMethod m_Ft_foretold.1 ∈ am_tbl := am_in3 140 (by decide +kernel) (by decide +kernel)
theorem se_Ft_foretold : Cond.selects m_Ft_foretold.1.cls m_Ft_foretold.1 m_Ft_foretold.1 ∈ am_tbl := am_in3 141 (by decide +kernel) (by decide +kernel)
theorem mb_Bo_cellOfShake : Cond.code m_Bo_cellOfShake.1 m_Bo_cellOfShake.2.1 m_Bo_cellOfShake.2.2.1 m_Bo_cellOfShake.2.2.2.1 ∈ am_tbl := am_in3 146 (by decide +kernel) (by decide +kernel)
theorem mz_Bo_cellOfShake : plainFor m_Bo_cellOfShake.1 = true ∧ (m_Bo_cellOfShake.1.cls ≠ "java/lang/invoke/MethodHandle" ∧ m_Bo_cellOfShake.1.cls ≠ "java/lang/invoke/VarHandle" ∧ (parseMethodDescriptor m_Bo_cellOfShake.1.desc).map (fun d => d.parameters.length) = some 1) := by decide +kernel
theorem mi_Bo_cellOfShake : Cond.instanceMethod m_Bo_cellOfShake.1 ∈ am_tbl := am_in3 144 (by decide +kernel) (by decide +kernel)
theorem se_Bo_cellOfShake : Cond.selects m_Bo_cellOfShake.1.cls m_Bo_cellOfShake.1 m_Bo_cellOfShake.1 ∈ am_tbl := am_in3 145 (by decide +kernel) (by decide +kernel)
theorem mb_Bo_begunOf : Cond.code m_Bo_begunOf.1 m_Bo_begunOf.2.1 m_Bo_begunOf.2.2.1 m_Bo_begunOf.2.2.2.1 ∈ am_tbl := am_in3 151 (by decide +kernel) (by decide +kernel)
theorem mz_Bo_begunOf : plainFor m_Bo_begunOf.1 = true ∧ (m_Bo_begunOf.1.cls ≠ "java/lang/invoke/MethodHandle" ∧ m_Bo_begunOf.1.cls ≠ "java/lang/invoke/VarHandle" ∧ (parseMethodDescriptor m_Bo_begunOf.1.desc).map (fun d => d.parameters.length) = some 1) := by decide +kernel
theorem mi_Bo_begunOf : Cond.instanceMethod m_Bo_begunOf.1 ∈ am_tbl := am_in3 149 (by decide +kernel) (by decide +kernel)
theorem se_Bo_begunOf : Cond.selects m_Bo_begunOf.1.cls m_Bo_begunOf.1 m_Bo_begunOf.1 ∈ am_tbl := am_in3 150 (by decide +kernel) (by decide +kernel)
theorem mb_Bo_cellOfEar : Cond.code m_Bo_cellOfEar.1 m_Bo_cellOfEar.2.1 m_Bo_cellOfEar.2.2.1 m_Bo_cellOfEar.2.2.2.1 ∈ am_tbl := am_in3 155 (by decide +kernel) (by decide +kernel)
theorem mz_Bo_cellOfEar : plainFor m_Bo_cellOfEar.1 = true ∧ (m_Bo_cellOfEar.1.cls ≠ "java/lang/invoke/MethodHandle" ∧ m_Bo_cellOfEar.1.cls ≠ "java/lang/invoke/VarHandle" ∧ (parseMethodDescriptor m_Bo_cellOfEar.1.desc).map (fun d => d.parameters.length) = some 1) := by decide +kernel
theorem mi_Bo_cellOfEar : Cond.instanceMethod m_Bo_cellOfEar.1 ∈ am_tbl := am_in3 153 (by decide +kernel) (by decide +kernel)
theorem se_Bo_cellOfEar : Cond.selects m_Bo_cellOfEar.1.cls m_Bo_cellOfEar.1 m_Bo_cellOfEar.1 ∈ am_tbl := am_in3 154 (by decide +kernel) (by decide +kernel)
theorem mb_Bo_clockOf : Cond.code m_Bo_clockOf.1 m_Bo_clockOf.2.1 m_Bo_clockOf.2.2.1 m_Bo_clockOf.2.2.2.1 ∈ am_tbl := am_in3 159 (by decide +kernel) (by decide +kernel)
theorem mz_Bo_clockOf : plainFor m_Bo_clockOf.1 = true ∧ (m_Bo_clockOf.1.cls ≠ "java/lang/invoke/MethodHandle" ∧ m_Bo_clockOf.1.cls ≠ "java/lang/invoke/VarHandle" ∧ (parseMethodDescriptor m_Bo_clockOf.1.desc).map (fun d => d.parameters.length) = some 1) := by decide +kernel
theorem mi_Bo_clockOf : Cond.instanceMethod m_Bo_clockOf.1 ∈ am_tbl := am_in3 157 (by decide +kernel) (by decide +kernel)
theorem se_Bo_clockOf : Cond.selects m_Bo_clockOf.1.cls m_Bo_clockOf.1 m_Bo_clockOf.1 ∈ am_tbl := am_in3 158 (by decide +kernel) (by decide +kernel)
theorem mb_Bo_lowNow : Cond.code m_Bo_lowNow.1 m_Bo_lowNow.2.1 m_Bo_lowNow.2.2.1 m_Bo_lowNow.2.2.2.1 ∈ am_tbl := am_in3 163 (by decide +kernel) (by decide +kernel)
theorem mz_Bo_lowNow : plainFor m_Bo_lowNow.1 = true ∧ (m_Bo_lowNow.1.cls ≠ "java/lang/invoke/MethodHandle" ∧ m_Bo_lowNow.1.cls ≠ "java/lang/invoke/VarHandle" ∧ (parseMethodDescriptor m_Bo_lowNow.1.desc).map (fun d => d.parameters.length) = some 1) := by decide +kernel
theorem mi_Bo_lowNow : Cond.instanceMethod m_Bo_lowNow.1 ∈ am_tbl := am_in3 161 (by decide +kernel) (by decide +kernel)
theorem se_Bo_lowNow : Cond.selects m_Bo_lowNow.1.cls m_Bo_lowNow.1 m_Bo_lowNow.1 ∈ am_tbl := am_in3 162 (by decide +kernel) (by decide +kernel)
theorem mb_Bo_lastTelling : Cond.code m_Bo_lastTelling.1 m_Bo_lastTelling.2.1 m_Bo_lastTelling.2.2.1 m_Bo_lastTelling.2.2.2.1 ∈ am_tbl := am_in3 167 (by decide +kernel) (by decide +kernel)
theorem mz_Bo_lastTelling : plainFor m_Bo_lastTelling.1 = true ∧ (m_Bo_lastTelling.1.cls ≠ "java/lang/invoke/MethodHandle" ∧ m_Bo_lastTelling.1.cls ≠ "java/lang/invoke/VarHandle" ∧ (parseMethodDescriptor m_Bo_lastTelling.1.desc).map (fun d => d.parameters.length) = some 2) := by decide +kernel
theorem mi_Bo_lastTelling : Cond.instanceMethod m_Bo_lastTelling.1 ∈ am_tbl := am_in3 165 (by decide +kernel) (by decide +kernel)
theorem se_Bo_lastTelling : Cond.selects m_Bo_lastTelling.1.cls m_Bo_lastTelling.1 m_Bo_lastTelling.1 ∈ am_tbl := am_in3 166 (by decide +kernel) (by decide +kernel)
theorem mb_Bo_highNow : Cond.code m_Bo_highNow.1 m_Bo_highNow.2.1 m_Bo_highNow.2.2.1 m_Bo_highNow.2.2.2.1 ∈ am_tbl := am_in3 171 (by decide +kernel) (by decide +kernel)
theorem mz_Bo_highNow : plainFor m_Bo_highNow.1 = true ∧ (m_Bo_highNow.1.cls ≠ "java/lang/invoke/MethodHandle" ∧ m_Bo_highNow.1.cls ≠ "java/lang/invoke/VarHandle" ∧ (parseMethodDescriptor m_Bo_highNow.1.desc).map (fun d => d.parameters.length) = some 1) := by decide +kernel
theorem mi_Bo_highNow : Cond.instanceMethod m_Bo_highNow.1 ∈ am_tbl := am_in3 169 (by decide +kernel) (by decide +kernel)
theorem se_Bo_highNow : Cond.selects m_Bo_highNow.1.cls m_Bo_highNow.1 m_Bo_highNow.1 ∈ am_tbl := am_in3 170 (by decide +kernel) (by decide +kernel)
theorem mb_Sp_missedBy : Cond.code m_Sp_missedBy.1 m_Sp_missedBy.2.1 m_Sp_missedBy.2.2.1 m_Sp_missedBy.2.2.2.1 ∈ am_tbl := am_in3 174 (by decide +kernel) (by decide +kernel)
theorem mz_Sp_missedBy : plainFor m_Sp_missedBy.1 = true ∧ (m_Sp_missedBy.1.cls ≠ "java/lang/invoke/MethodHandle" ∧ m_Sp_missedBy.1.cls ≠ "java/lang/invoke/VarHandle" ∧ (parseMethodDescriptor m_Sp_missedBy.1.desc).map (fun d => d.parameters.length) = some 3) := by decide +kernel
theorem ms_Sp_missedBy : Cond.static m_Sp_missedBy.1 ∈ am_tbl := am_in3 173 (by decide +kernel) (by decide +kernel)
theorem mb_Ma_max : Cond.code m_Ma_max.1 m_Ma_max.2.1 m_Ma_max.2.2.1 m_Ma_max.2.2.2.1 ∈ am_tbl := am_in3 177 (by decide +kernel) (by decide +kernel)
theorem mz_Ma_max : plainFor m_Ma_max.1 = true ∧ (m_Ma_max.1.cls ≠ "java/lang/invoke/MethodHandle" ∧ m_Ma_max.1.cls ≠ "java/lang/invoke/VarHandle" ∧ (parseMethodDescriptor m_Ma_max.1.desc).map (fun d => d.parameters.length) = some 2) := by decide +kernel
theorem ms_Ma_max : Cond.static m_Ma_max.1 ∈ am_tbl := am_in3 176 (by decide +kernel) (by decide +kernel)
theorem mb_Sp_misfit : Cond.code m_Sp_misfit.1 m_Sp_misfit.2.1 m_Sp_misfit.2.2.1 m_Sp_misfit.2.2.2.1 ∈ am_tbl := am_in3 183 (by decide +kernel) (by decide +kernel)
theorem mz_Sp_misfit : plainFor m_Sp_misfit.1 = true ∧ (m_Sp_misfit.1.cls ≠ "java/lang/invoke/MethodHandle" ∧ m_Sp_misfit.1.cls ≠ "java/lang/invoke/VarHandle" ∧ (parseMethodDescriptor m_Sp_misfit.1.desc).map (fun d => d.parameters.length) = some 2) := by decide +kernel
theorem mi_Sp_misfit : Cond.instanceMethod m_Sp_misfit.1 ∈ am_tbl := am_in3 181 (by decide +kernel) (by decide +kernel)
theorem se_Sp_misfit : Cond.selects m_Sp_misfit.1.cls m_Sp_misfit.1 m_Sp_misfit.1 ∈ am_tbl := am_in3 182 (by decide +kernel) (by decide +kernel)
theorem mb_Sp_fit : Cond.code m_Sp_fit.1 m_Sp_fit.2.1 m_Sp_fit.2.2.1 m_Sp_fit.2.2.2.1 ∈ am_tbl := am_in3 188 (by decide +kernel) (by decide +kernel)
theorem mz_Sp_fit : plainFor m_Sp_fit.1 = true ∧ (m_Sp_fit.1.cls ≠ "java/lang/invoke/MethodHandle" ∧ m_Sp_fit.1.cls ≠ "java/lang/invoke/VarHandle" ∧ (parseMethodDescriptor m_Sp_fit.1.desc).map (fun d => d.parameters.length) = some 1) := by decide +kernel
theorem mi_Sp_fit : Cond.instanceMethod m_Sp_fit.1 ∈ am_tbl := am_in3 186 (by decide +kernel) (by decide +kernel)
theorem se_Sp_fit : Cond.selects m_Sp_fit.1.cls m_Sp_fit.1 m_Sp_fit.1 ∈ am_tbl := am_in3 187 (by decide +kernel) (by decide +kernel)
theorem mb_Ft_aimAtTold : Cond.code m_Ft_aimAtTold.1 m_Ft_aimAtTold.2.1 m_Ft_aimAtTold.2.2.1 m_Ft_aimAtTold.2.2.2.1 ∈ am_tbl := am_in3 192 (by decide +kernel) (by decide +kernel)
theorem mz_Ft_aimAtTold : plainFor m_Ft_aimAtTold.1 = true ∧ (m_Ft_aimAtTold.1.cls ≠ "java/lang/invoke/MethodHandle" ∧ m_Ft_aimAtTold.1.cls ≠ "java/lang/invoke/VarHandle" ∧ (parseMethodDescriptor m_Ft_aimAtTold.1.desc).map (fun d => d.parameters.length) = some 0) := by decide +kernel
theorem mi_Ft_aimAtTold : Cond.instanceMethod m_Ft_aimAtTold.1 ∈ am_tbl := am_in3 190 (by decide +kernel) (by decide +kernel)
theorem se_Ft_aimAtTold : Cond.selects m_Ft_aimAtTold.1.cls m_Ft_aimAtTold.1 m_Ft_aimAtTold.1 ∈ am_tbl := am_in3 191 (by decide +kernel) (by decide +kernel)
theorem mb_Ft_sweep : Cond.code m_Ft_sweep.1 m_Ft_sweep.2.1 m_Ft_sweep.2.2.1 m_Ft_sweep.2.2.2.1 ∈ am_tbl := am_in3 198 (by decide +kernel) (by decide +kernel)
theorem mz_Ft_sweep : plainFor m_Ft_sweep.1 = true ∧ (m_Ft_sweep.1.cls ≠ "java/lang/invoke/MethodHandle" ∧ m_Ft_sweep.1.cls ≠ "java/lang/invoke/VarHandle" ∧ (parseMethodDescriptor m_Ft_sweep.1.desc).map (fun d => d.parameters.length) = some 1) := by decide +kernel
theorem mi_Ft_sweep : Cond.instanceMethod m_Ft_sweep.1 ∈ am_tbl := am_in3 196 (by decide +kernel) (by decide +kernel)
theorem se_Ft_sweep : Cond.selects m_Ft_sweep.1.cls m_Ft_sweep.1 m_Ft_sweep.1 ∈ am_tbl := am_in3 197 (by decide +kernel) (by decide +kernel)
theorem mb_Gr_blocksInUse : Cond.code m_Gr_blocksInUse.1 m_Gr_blocksInUse.2.1 m_Gr_blocksInUse.2.2.1 m_Gr_blocksInUse.2.2.2.1 ∈ am_tbl := am_in3 202 (by decide +kernel) (by decide +kernel)
theorem mz_Gr_blocksInUse : plainFor m_Gr_blocksInUse.1 = true ∧ (m_Gr_blocksInUse.1.cls ≠ "java/lang/invoke/MethodHandle" ∧ m_Gr_blocksInUse.1.cls ≠ "java/lang/invoke/VarHandle" ∧ (parseMethodDescriptor m_Gr_blocksInUse.1.desc).map (fun d => d.parameters.length) = some 0) := by decide +kernel
theorem mi_Gr_blocksInUse : Cond.instanceMethod m_Gr_blocksInUse.1 ∈ am_tbl := am_in3 200 (by decide +kernel) (by decide +kernel)
theorem se_Gr_blocksInUse : Cond.selects m_Gr_blocksInUse.1.cls m_Gr_blocksInUse.1 m_Gr_blocksInUse.1 ∈ am_tbl := am_in3 201 (by decide +kernel) (by decide +kernel)
theorem mb_Ft_improve : Cond.code m_Ft_improve.1 m_Ft_improve.2.1 m_Ft_improve.2.2.1 m_Ft_improve.2.2.2.1 ∈ am_tbl := am_in3 207 (by decide +kernel) (by decide +kernel)
theorem mz_Ft_improve : plainFor m_Ft_improve.1 = true ∧ (m_Ft_improve.1.cls ≠ "java/lang/invoke/MethodHandle" ∧ m_Ft_improve.1.cls ≠ "java/lang/invoke/VarHandle" ∧ (parseMethodDescriptor m_Ft_improve.1.desc).map (fun d => d.parameters.length) = some 1) := by decide +kernel
theorem mi_Ft_improve : Cond.instanceMethod m_Ft_improve.1 ∈ am_tbl := am_in3 206 (by decide +kernel) (by decide +kernel)
theorem se_Ft_improve : Cond.selects m_Ft_improve.1.cls m_Ft_improve.1 m_Ft_improve.1 ∈ am_tbl := am_inS (q := (⟨"ShakePictures$Fitter", "improve", "(I)I"⟩, 9)) 7 (by decide +kernel)
theorem mb_Ft_gatherMembers : Cond.code m_Ft_gatherMembers.1 m_Ft_gatherMembers.2.1 m_Ft_gatherMembers.2.2.1 m_Ft_gatherMembers.2.2.2.1 ∈ am_tbl := am_in3 212 (by decide +kernel) (by decide +kernel)
theorem mz_Ft_gatherMembers : plainFor m_Ft_gatherMembers.1 = true ∧ (m_Ft_gatherMembers.1.cls ≠ "java/lang/invoke/MethodHandle" ∧ m_Ft_gatherMembers.1.cls ≠ "java/lang/invoke/VarHandle" ∧ (parseMethodDescriptor m_Ft_gatherMembers.1.desc).map (fun d => d.parameters.length) = some 2) := by decide +kernel
theorem mi_Ft_gatherMembers : Cond.instanceMethod m_Ft_gatherMembers.1 ∈ am_tbl := am_in3 211 (by decide +kernel) (by decide +kernel)
theorem se_Ft_gatherMembers : Cond.selects m_Ft_gatherMembers.1.cls m_Ft_gatherMembers.1 m_Ft_gatherMembers.1 ∈ am_tbl := am_inS (q := (⟨"ShakePictures$Fitter", "gatherMembers", "(II)V"⟩, 9)) 8 (by decide +kernel)
theorem mb_Ft_tabulate : Cond.code m_Ft_tabulate.1 m_Ft_tabulate.2.1 m_Ft_tabulate.2.2.1 m_Ft_tabulate.2.2.2.1 ∈ am_tbl := am_in3 216 (by decide +kernel) (by decide +kernel)
theorem mz_Ft_tabulate : plainFor m_Ft_tabulate.1 = true ∧ (m_Ft_tabulate.1.cls ≠ "java/lang/invoke/MethodHandle" ∧ m_Ft_tabulate.1.cls ≠ "java/lang/invoke/VarHandle" ∧ (parseMethodDescriptor m_Ft_tabulate.1.desc).map (fun d => d.parameters.length) = some 3) := by decide +kernel
theorem mi_Ft_tabulate : Cond.instanceMethod m_Ft_tabulate.1 ∈ am_tbl := am_in3 215 (by decide +kernel) (by decide +kernel)
theorem se_Ft_tabulate : Cond.selects m_Ft_tabulate.1.cls m_Ft_tabulate.1 m_Ft_tabulate.1 ∈ am_tbl := am_inS (q := (⟨"ShakePictures$Fitter", "tabulate", "(III)V"⟩, 9)) 9 (by decide +kernel)
theorem mb_Ft_measure : Cond.code m_Ft_measure.1 m_Ft_measure.2.1 m_Ft_measure.2.2.1 m_Ft_measure.2.2.2.1 ∈ am_tbl := am_in3 220 (by decide +kernel) (by decide +kernel)
theorem mz_Ft_measure : plainFor m_Ft_measure.1 = true ∧ (m_Ft_measure.1.cls ≠ "java/lang/invoke/MethodHandle" ∧ m_Ft_measure.1.cls ≠ "java/lang/invoke/VarHandle" ∧ (parseMethodDescriptor m_Ft_measure.1.desc).map (fun d => d.parameters.length) = some 4) := by decide +kernel
theorem mi_Ft_measure : Cond.instanceMethod m_Ft_measure.1 ∈ am_tbl := am_in3 219 (by decide +kernel) (by decide +kernel)
theorem se_Ft_measure : Cond.selects m_Ft_measure.1.cls m_Ft_measure.1 m_Ft_measure.1 ∈ am_tbl := am_inS (q := (⟨"ShakePictures$Fitter", "measure", "(IIII)V"⟩, 9)) 10 (by decide +kernel)
theorem mb_Ft_isStraight : Cond.code m_Ft_isStraight.1 m_Ft_isStraight.2.1 m_Ft_isStraight.2.2.1 m_Ft_isStraight.2.2.2.1 ∈ am_tbl := am_in3 224 (by decide +kernel) (by decide +kernel)
theorem mz_Ft_isStraight : plainFor m_Ft_isStraight.1 = true ∧ (m_Ft_isStraight.1.cls ≠ "java/lang/invoke/MethodHandle" ∧ m_Ft_isStraight.1.cls ≠ "java/lang/invoke/VarHandle" ∧ (parseMethodDescriptor m_Ft_isStraight.1.desc).map (fun d => d.parameters.length) = some 4) := by decide +kernel
theorem mi_Ft_isStraight : Cond.instanceMethod m_Ft_isStraight.1 ∈ am_tbl := am_in3 223 (by decide +kernel) (by decide +kernel)
theorem se_Ft_isStraight : Cond.selects m_Ft_isStraight.1.cls m_Ft_isStraight.1 m_Ft_isStraight.1 ∈ am_tbl := am_inS (q := (⟨"ShakePictures$Fitter", "isStraight", "(IIII)Z"⟩, 9)) 11 (by decide +kernel)
theorem mb_Ft_fillLine : Cond.code m_Ft_fillLine.1 m_Ft_fillLine.2.1 m_Ft_fillLine.2.2.1 m_Ft_fillLine.2.2.2.1 ∈ am_tbl := am_in3 229 (by decide +kernel) (by decide +kernel)
theorem mz_Ft_fillLine : plainFor m_Ft_fillLine.1 = true ∧ (m_Ft_fillLine.1.cls ≠ "java/lang/invoke/MethodHandle" ∧ m_Ft_fillLine.1.cls ≠ "java/lang/invoke/VarHandle" ∧ (parseMethodDescriptor m_Ft_fillLine.1.desc).map (fun d => d.parameters.length) = some 3) := by decide +kernel
theorem mi_Ft_fillLine : Cond.instanceMethod m_Ft_fillLine.1 ∈ am_tbl := am_in3 228 (by decide +kernel) (by decide +kernel)
theorem se_Ft_fillLine : Cond.selects m_Ft_fillLine.1.cls m_Ft_fillLine.1 m_Ft_fillLine.1 ∈ am_tbl := am_inS (q := (⟨"ShakePictures$Fitter", "fillLine", "(III)V"⟩, 9)) 12 (by decide +kernel)
theorem mb_Ft_addMisfits : Cond.code m_Ft_addMisfits.1 m_Ft_addMisfits.2.1 m_Ft_addMisfits.2.2.1 m_Ft_addMisfits.2.2.2.1 ∈ am_tbl := am_in3 233 (by decide +kernel) (by decide +kernel)
theorem mz_Ft_addMisfits : plainFor m_Ft_addMisfits.1 = true ∧ (m_Ft_addMisfits.1.cls ≠ "java/lang/invoke/MethodHandle" ∧ m_Ft_addMisfits.1.cls ≠ "java/lang/invoke/VarHandle" ∧ (parseMethodDescriptor m_Ft_addMisfits.1.desc).map (fun d => d.parameters.length) = some 1) := by decide +kernel
theorem mi_Ft_addMisfits : Cond.instanceMethod m_Ft_addMisfits.1 ∈ am_tbl := am_in3 232 (by decide +kernel) (by decide +kernel)
theorem se_Ft_addMisfits : Cond.selects m_Ft_addMisfits.1.cls m_Ft_addMisfits.1 m_Ft_addMisfits.1 ∈ am_tbl := am_inS (q := (⟨"ShakePictures$Fitter", "addMisfits", "(I)V"⟩, 9)) 13 (by decide +kernel)
theorem mb_Sp_span : Cond.code m_Sp_span.1 m_Sp_span.2.1 m_Sp_span.2.2.1 m_Sp_span.2.2.2.1 ∈ am_tbl := am_in3 238 (by decide +kernel) (by decide +kernel)
theorem mz_Sp_span : plainFor m_Sp_span.1 = true ∧ (m_Sp_span.1.cls ≠ "java/lang/invoke/MethodHandle" ∧ m_Sp_span.1.cls ≠ "java/lang/invoke/VarHandle" ∧ (parseMethodDescriptor m_Sp_span.1.desc).map (fun d => d.parameters.length) = some 2) := by decide +kernel
theorem mi_Sp_span : Cond.instanceMethod m_Sp_span.1 ∈ am_tbl := am_in3 236 (by decide +kernel) (by decide +kernel)
theorem se_Sp_span : Cond.selects m_Sp_span.1.cls m_Sp_span.1 m_Sp_span.1 ∈ am_tbl := am_in3 237 (by decide +kernel) (by decide +kernel)
theorem mb_Ra_gather : Cond.code m_Ra_gather.1 m_Ra_gather.2.1 m_Ra_gather.2.2.1 m_Ra_gather.2.2.2.1 ∈ am_tbl := am_in4 2 (by decide +kernel) (by decide +kernel)
theorem mz_Ra_gather : plainFor m_Ra_gather.1 = true ∧ (m_Ra_gather.1.cls ≠ "java/lang/invoke/MethodHandle" ∧ m_Ra_gather.1.cls ≠ "java/lang/invoke/VarHandle" ∧ (parseMethodDescriptor m_Ra_gather.1.desc).map (fun d => d.parameters.length) = some 0) := by decide +kernel
theorem mi_Ra_gather : Cond.instanceMethod m_Ra_gather.1 ∈ am_tbl := am_in4 0 (by decide +kernel) (by decide +kernel)
theorem se_Ra_gather : Cond.selects m_Ra_gather.1.cls m_Ra_gather.1 m_Ra_gather.1 ∈ am_tbl := am_in4 1 (by decide +kernel) (by decide +kernel)
theorem mb_Gr_countRays : Cond.code m_Gr_countRays.1 m_Gr_countRays.2.1 m_Gr_countRays.2.2.1 m_Gr_countRays.2.2.2.1 ∈ am_tbl := am_in4 10 (by decide +kernel) (by decide +kernel)
theorem mz_Gr_countRays : plainFor m_Gr_countRays.1 = true ∧ (m_Gr_countRays.1.cls ≠ "java/lang/invoke/MethodHandle" ∧ m_Gr_countRays.1.cls ≠ "java/lang/invoke/VarHandle" ∧ (parseMethodDescriptor m_Gr_countRays.1.desc).map (fun d => d.parameters.length) = some 1) := by decide +kernel
theorem mi_Gr_countRays : Cond.instanceMethod m_Gr_countRays.1 ∈ am_tbl := am_in4 8 (by decide +kernel) (by decide +kernel)
theorem se_Gr_countRays : Cond.selects m_Gr_countRays.1.cls m_Gr_countRays.1 m_Gr_countRays.1 ∈ am_tbl := am_in4 9 (by decide +kernel) (by decide +kernel)
theorem mb_Pr_setBounds : Cond.code m_Pr_setBounds.1 m_Pr_setBounds.2.1 m_Pr_setBounds.2.2.1 m_Pr_setBounds.2.2.2.1 ∈ am_tbl := am_in4 14 (by decide +kernel) (by decide +kernel)
theorem mz_Pr_setBounds : plainFor m_Pr_setBounds.1 = true ∧ (m_Pr_setBounds.1.cls ≠ "java/lang/invoke/MethodHandle" ∧ m_Pr_setBounds.1.cls ≠ "java/lang/invoke/VarHandle" ∧ (parseMethodDescriptor m_Pr_setBounds.1.desc).map (fun d => d.parameters.length) = some 0) := by decide +kernel
theorem mi_Pr_setBounds : Cond.instanceMethod m_Pr_setBounds.1 ∈ am_tbl := am_in4 12 (by decide +kernel) (by decide +kernel)
theorem se_Pr_setBounds : Cond.selects m_Pr_setBounds.1.cls m_Pr_setBounds.1 m_Pr_setBounds.1 ∈ am_tbl := am_in4 13 (by decide +kernel) (by decide +kernel)
theorem mb_Ra_allRows : Cond.code m_Ra_allRows.1 m_Ra_allRows.2.1 m_Ra_allRows.2.2.1 m_Ra_allRows.2.2.2.1 ∈ am_tbl := am_in4 22 (by decide +kernel) (by decide +kernel)
theorem mz_Ra_allRows : plainFor m_Ra_allRows.1 = true ∧ (m_Ra_allRows.1.cls ≠ "java/lang/invoke/MethodHandle" ∧ m_Ra_allRows.1.cls ≠ "java/lang/invoke/VarHandle" ∧ (parseMethodDescriptor m_Ra_allRows.1.desc).map (fun d => d.parameters.length) = some 0) := by decide +kernel
theorem mi_Ra_allRows : Cond.instanceMethod m_Ra_allRows.1 ∈ am_tbl := am_in4 20 (by decide +kernel) (by decide +kernel)
theorem se_Ra_allRows : Cond.selects m_Ra_allRows.1.cls m_Ra_allRows.1 m_Ra_allRows.1 ∈ am_tbl := am_in4 21 (by decide +kernel) (by decide +kernel)
theorem mb_Pr_quarrels : Cond.code m_Pr_quarrels.1 m_Pr_quarrels.2.1 m_Pr_quarrels.2.2.1 m_Pr_quarrels.2.2.2.1 ∈ am_tbl := am_in4 26 (by decide +kernel) (by decide +kernel)
theorem mz_Pr_quarrels : plainFor m_Pr_quarrels.1 = true ∧ (m_Pr_quarrels.1.cls ≠ "java/lang/invoke/MethodHandle" ∧ m_Pr_quarrels.1.cls ≠ "java/lang/invoke/VarHandle" ∧ (parseMethodDescriptor m_Pr_quarrels.1.desc).map (fun d => d.parameters.length) = some 1) := by decide +kernel
theorem mi_Pr_quarrels : Cond.instanceMethod m_Pr_quarrels.1 ∈ am_tbl := am_in4 24 (by decide +kernel) (by decide +kernel)
theorem se_Pr_quarrels : Cond.selects m_Pr_quarrels.1.cls m_Pr_quarrels.1 m_Pr_quarrels.1 ∈ am_tbl := am_in4 25 (by decide +kernel) (by decide +kernel)
theorem mb_Pr_narrow : Cond.code m_Pr_narrow.1 m_Pr_narrow.2.1 m_Pr_narrow.2.2.1 m_Pr_narrow.2.2.2.1 ∈ am_tbl := am_in4 31 (by decide +kernel) (by decide +kernel)
theorem mz_Pr_narrow : plainFor m_Pr_narrow.1 = true ∧ (m_Pr_narrow.1.cls ≠ "java/lang/invoke/MethodHandle" ∧ m_Pr_narrow.1.cls ≠ "java/lang/invoke/VarHandle" ∧ (parseMethodDescriptor m_Pr_narrow.1.desc).map (fun d => d.parameters.length) = some 1) := by decide +kernel
theorem mi_Pr_narrow : Cond.instanceMethod m_Pr_narrow.1 ∈ am_tbl := am_in4 30 (by decide +kernel) (by decide +kernel)
theorem se_Pr_narrow : Cond.selects m_Pr_narrow.1.cls m_Pr_narrow.1 m_Pr_narrow.1 ∈ am_tbl := am_inS (q := (⟨"ShakePictures$Press", "narrow", "(I)Z"⟩, 7)) 14 (by decide +kernel)
theorem mb_Pr_weigh : Cond.code m_Pr_weigh.1 m_Pr_weigh.2.1 m_Pr_weigh.2.2.1 m_Pr_weigh.2.2.2.1 ∈ am_tbl := am_in4 34 (by decide +kernel) (by decide +kernel)
theorem mz_Pr_weigh : plainFor m_Pr_weigh.1 = true ∧ (m_Pr_weigh.1.cls ≠ "java/lang/invoke/MethodHandle" ∧ m_Pr_weigh.1.cls ≠ "java/lang/invoke/VarHandle" ∧ (parseMethodDescriptor m_Pr_weigh.1.desc).map (fun d => d.parameters.length) = some 2) := by decide +kernel
theorem ms_Pr_weigh : Cond.static m_Pr_weigh.1 ∈ am_tbl := am_in4 33 (by decide +kernel) (by decide +kernel)
theorem mb_Ma_floorDiv : Cond.code m_Ma_floorDiv.1 m_Ma_floorDiv.2.1 m_Ma_floorDiv.2.2.1 m_Ma_floorDiv.2.2.2.1 ∈ am_tbl := am_in4 37 (by decide +kernel) (by decide +kernel)
theorem mz_Ma_floorDiv : plainFor m_Ma_floorDiv.1 = true ∧ (m_Ma_floorDiv.1.cls ≠ "java/lang/invoke/MethodHandle" ∧ m_Ma_floorDiv.1.cls ≠ "java/lang/invoke/VarHandle" ∧ (parseMethodDescriptor m_Ma_floorDiv.1.desc).map (fun d => d.parameters.length) = some 2) := by decide +kernel
theorem ms_Ma_floorDiv : Cond.static m_Ma_floorDiv.1 ∈ am_tbl := am_in4 36 (by decide +kernel) (by decide +kernel)
theorem mb_Sp_quarrel : Cond.code m_Sp_quarrel.1 m_Sp_quarrel.2.1 m_Sp_quarrel.2.2.1 m_Sp_quarrel.2.2.2.1 ∈ am_tbl := am_in4 41 (by decide +kernel) (by decide +kernel)
theorem mz_Sp_quarrel : plainFor m_Sp_quarrel.1 = true ∧ (m_Sp_quarrel.1.cls ≠ "java/lang/invoke/MethodHandle" ∧ m_Sp_quarrel.1.cls ≠ "java/lang/invoke/VarHandle" ∧ (parseMethodDescriptor m_Sp_quarrel.1.desc).map (fun d => d.parameters.length) = some 0) := by decide +kernel
theorem mi_Sp_quarrel : Cond.instanceMethod m_Sp_quarrel.1 ∈ am_tbl := am_in4 39 (by decide +kernel) (by decide +kernel)
theorem se_Sp_quarrel : Cond.selects m_Sp_quarrel.1.cls m_Sp_quarrel.1 m_Sp_quarrel.1 ∈ am_tbl := am_in4 40 (by decide +kernel) (by decide +kernel)
theorem mb_Pr_leastQuarrel : Cond.code m_Pr_leastQuarrel.1 m_Pr_leastQuarrel.2.1 m_Pr_leastQuarrel.2.2.1 m_Pr_leastQuarrel.2.2.2.1 ∈ am_tbl := am_in4 45 (by decide +kernel) (by decide +kernel)
theorem mz_Pr_leastQuarrel : plainFor m_Pr_leastQuarrel.1 = true ∧ (m_Pr_leastQuarrel.1.cls ≠ "java/lang/invoke/MethodHandle" ∧ m_Pr_leastQuarrel.1.cls ≠ "java/lang/invoke/VarHandle" ∧ (parseMethodDescriptor m_Pr_leastQuarrel.1.desc).map (fun d => d.parameters.length) = some 0) := by decide +kernel
theorem mi_Pr_leastQuarrel : Cond.instanceMethod m_Pr_leastQuarrel.1 ∈ am_tbl := am_in4 43 (by decide +kernel) (by decide +kernel)
theorem se_Pr_leastQuarrel : Cond.selects m_Pr_leastQuarrel.1.cls m_Pr_leastQuarrel.1 m_Pr_leastQuarrel.1 ∈ am_tbl := am_in4 44 (by decide +kernel) (by decide +kernel)
theorem mb_Ra_picksOf : Cond.code m_Ra_picksOf.1 m_Ra_picksOf.2.1 m_Ra_picksOf.2.2.1 m_Ra_picksOf.2.2.2.1 ∈ am_tbl := am_in4 52 (by decide +kernel) (by decide +kernel)
theorem mz_Ra_picksOf : plainFor m_Ra_picksOf.1 = true ∧ (m_Ra_picksOf.1.cls ≠ "java/lang/invoke/MethodHandle" ∧ m_Ra_picksOf.1.cls ≠ "java/lang/invoke/VarHandle" ∧ (parseMethodDescriptor m_Ra_picksOf.1.desc).map (fun d => d.parameters.length) = some 1) := by decide +kernel
theorem mi_Ra_picksOf : Cond.instanceMethod m_Ra_picksOf.1 ∈ am_tbl := am_in4 50 (by decide +kernel) (by decide +kernel)
theorem se_Ra_picksOf : Cond.selects m_Ra_picksOf.1.cls m_Ra_picksOf.1 m_Ra_picksOf.1 ∈ am_tbl := am_in4 51 (by decide +kernel) (by decide +kernel)
theorem mb_Sp_rank : Cond.code m_Sp_rank.1 m_Sp_rank.2.1 m_Sp_rank.2.2.1 m_Sp_rank.2.2.2.1 ∈ am_tbl := am_in4 56 (by decide +kernel) (by decide +kernel)
theorem mz_Sp_rank : plainFor m_Sp_rank.1 = true ∧ (m_Sp_rank.1.cls ≠ "java/lang/invoke/MethodHandle" ∧ m_Sp_rank.1.cls ≠ "java/lang/invoke/VarHandle" ∧ (parseMethodDescriptor m_Sp_rank.1.desc).map (fun d => d.parameters.length) = some 0) := by decide +kernel
theorem mi_Sp_rank : Cond.instanceMethod m_Sp_rank.1 ∈ am_tbl := am_in4 54 (by decide +kernel) (by decide +kernel)
theorem se_Sp_rank : Cond.selects m_Sp_rank.1.cls m_Sp_rank.1 m_Sp_rank.1 ∈ am_tbl := am_in4 55 (by decide +kernel) (by decide +kernel)
theorem mb_Re_takePicks : Cond.code m_Re_takePicks.1 m_Re_takePicks.2.1 m_Re_takePicks.2.2.1 m_Re_takePicks.2.2.2.1 ∈ am_tbl := am_in4 60 (by decide +kernel) (by decide +kernel)
theorem mz_Re_takePicks : plainFor m_Re_takePicks.1 = true ∧ (m_Re_takePicks.1.cls ≠ "java/lang/invoke/MethodHandle" ∧ m_Re_takePicks.1.cls ≠ "java/lang/invoke/VarHandle" ∧ (parseMethodDescriptor m_Re_takePicks.1.desc).map (fun d => d.parameters.length) = some 0) := by decide +kernel
theorem mi_Re_takePicks : Cond.instanceMethod m_Re_takePicks.1 ∈ am_tbl := am_in4 58 (by decide +kernel) (by decide +kernel)
theorem se_Re_takePicks : Cond.selects m_Re_takePicks.1.cls m_Re_takePicks.1 m_Re_takePicks.1 ∈ am_tbl := am_in4 59 (by decide +kernel) (by decide +kernel)
theorem mb_Ba_clear : Cond.code m_Ba_clear.1 m_Ba_clear.2.1 m_Ba_clear.2.2.1 m_Ba_clear.2.2.2.1 ∈ am_tbl := am_in4 64 (by decide +kernel) (by decide +kernel)
theorem mz_Ba_clear : plainFor m_Ba_clear.1 = true ∧ (m_Ba_clear.1.cls ≠ "java/lang/invoke/MethodHandle" ∧ m_Ba_clear.1.cls ≠ "java/lang/invoke/VarHandle" ∧ (parseMethodDescriptor m_Ba_clear.1.desc).map (fun d => d.parameters.length) = some 0) := by decide +kernel
theorem mi_Ba_clear : Cond.instanceMethod m_Ba_clear.1 ∈ am_tbl := am_in4 62 (by decide +kernel) (by decide +kernel)
theorem se_Ba_clear : Cond.selects m_Ba_clear.1.cls m_Ba_clear.1 m_Ba_clear.1 ∈ am_tbl := am_in4 63 (by decide +kernel) (by decide +kernel)
theorem mb_Ba_add : Cond.code m_Ba_add.1 m_Ba_add.2.1 m_Ba_add.2.2.1 m_Ba_add.2.2.2.1 ∈ am_tbl := am_in4 68 (by decide +kernel) (by decide +kernel)
theorem mz_Ba_add : plainFor m_Ba_add.1 = true ∧ (m_Ba_add.1.cls ≠ "java/lang/invoke/MethodHandle" ∧ m_Ba_add.1.cls ≠ "java/lang/invoke/VarHandle" ∧ (parseMethodDescriptor m_Ba_add.1.desc).map (fun d => d.parameters.length) = some 1) := by decide +kernel
theorem mi_Ba_add : Cond.instanceMethod m_Ba_add.1 ∈ am_tbl := am_in4 66 (by decide +kernel) (by decide +kernel)
theorem se_Ba_add : Cond.selects m_Ba_add.1.cls m_Ba_add.1 m_Ba_add.1 ∈ am_tbl := am_in4 67 (by decide +kernel) (by decide +kernel)
theorem mb_Ba_clearColumn : Cond.code m_Ba_clearColumn.1 m_Ba_clearColumn.2.1 m_Ba_clearColumn.2.2.1 m_Ba_clearColumn.2.2.2.1 ∈ am_tbl := am_in4 71 (by decide +kernel) (by decide +kernel)
theorem mz_Ba_clearColumn : plainFor m_Ba_clearColumn.1 = true ∧ (m_Ba_clearColumn.1.cls ≠ "java/lang/invoke/MethodHandle" ∧ m_Ba_clearColumn.1.cls ≠ "java/lang/invoke/VarHandle" ∧ (parseMethodDescriptor m_Ba_clearColumn.1.desc).map (fun d => d.parameters.length) = some 3) := by decide +kernel
theorem ms_Ba_clearColumn : Cond.static m_Ba_clearColumn.1 ∈ am_tbl := am_in4 70 (by decide +kernel) (by decide +kernel)
theorem mb_Ma_floorMod : Cond.code m_Ma_floorMod.1 m_Ma_floorMod.2.1 m_Ma_floorMod.2.2.1 m_Ma_floorMod.2.2.2.1 ∈ am_tbl := am_in4 75 (by decide +kernel) (by decide +kernel)
theorem mz_Ma_floorMod : plainFor m_Ma_floorMod.1 = true ∧ (m_Ma_floorMod.1.cls ≠ "java/lang/invoke/MethodHandle" ∧ m_Ma_floorMod.1.cls ≠ "java/lang/invoke/VarHandle" ∧ (parseMethodDescriptor m_Ma_floorMod.1.desc).map (fun d => d.parameters.length) = some 2) := by decide +kernel
theorem ms_Ma_floorMod : Cond.static m_Ma_floorMod.1 ∈ am_tbl := am_in4 74 (by decide +kernel) (by decide +kernel)
theorem mb_Ba_firstColumn : Cond.code m_Ba_firstColumn.1 m_Ba_firstColumn.2.1 m_Ba_firstColumn.2.2.1 m_Ba_firstColumn.2.2.2.1 ∈ am_tbl := am_in4 79 (by decide +kernel) (by decide +kernel)
theorem mz_Ba_firstColumn : plainFor m_Ba_firstColumn.1 = true ∧ (m_Ba_firstColumn.1.cls ≠ "java/lang/invoke/MethodHandle" ∧ m_Ba_firstColumn.1.cls ≠ "java/lang/invoke/VarHandle" ∧ (parseMethodDescriptor m_Ba_firstColumn.1.desc).map (fun d => d.parameters.length) = some 0) := by decide +kernel
theorem mi_Ba_firstColumn : Cond.instanceMethod m_Ba_firstColumn.1 ∈ am_tbl := am_in4 78 (by decide +kernel) (by decide +kernel)
theorem se_Ba_firstColumn : Cond.selects m_Ba_firstColumn.1.cls m_Ba_firstColumn.1 m_Ba_firstColumn.1 ∈ am_tbl := am_inS (q := (⟨"ShakePictures$Basis", "firstColumn", "()I"⟩, 4)) 15 (by decide +kernel)
theorem mb_Sp_resolved : Cond.code m_Sp_resolved.1 m_Sp_resolved.2.1 m_Sp_resolved.2.2.1 m_Sp_resolved.2.2.2.1 ∈ am_tbl := am_in4 86 (by decide +kernel) (by decide +kernel)
theorem mz_Sp_resolved : plainFor m_Sp_resolved.1 = true ∧ (m_Sp_resolved.1.cls ≠ "java/lang/invoke/MethodHandle" ∧ m_Sp_resolved.1.cls ≠ "java/lang/invoke/VarHandle" ∧ (parseMethodDescriptor m_Sp_resolved.1.desc).map (fun d => d.parameters.length) = some 1) := by decide +kernel
theorem mi_Sp_resolved : Cond.instanceMethod m_Sp_resolved.1 ∈ am_tbl := am_in4 84 (by decide +kernel) (by decide +kernel)
theorem se_Sp_resolved : Cond.selects m_Sp_resolved.1.cls m_Sp_resolved.1 m_Sp_resolved.1 ∈ am_tbl := am_in4 85 (by decide +kernel) (by decide +kernel)
theorem mb_Ba_isResolved : Cond.code m_Ba_isResolved.1 m_Ba_isResolved.2.1 m_Ba_isResolved.2.2.1 m_Ba_isResolved.2.2.2.1 ∈ am_tbl := am_in4 90 (by decide +kernel) (by decide +kernel)
theorem mz_Ba_isResolved : plainFor m_Ba_isResolved.1 = true ∧ (m_Ba_isResolved.1.cls ≠ "java/lang/invoke/MethodHandle" ∧ m_Ba_isResolved.1.cls ≠ "java/lang/invoke/VarHandle" ∧ (parseMethodDescriptor m_Ba_isResolved.1.desc).map (fun d => d.parameters.length) = some 1) := by decide +kernel
theorem mi_Ba_isResolved : Cond.instanceMethod m_Ba_isResolved.1 ∈ am_tbl := am_in4 88 (by decide +kernel) (by decide +kernel)
theorem se_Ba_isResolved : Cond.selects m_Ba_isResolved.1.cls m_Ba_isResolved.1 m_Ba_isResolved.1 ∈ am_tbl := am_in4 89 (by decide +kernel) (by decide +kernel)
theorem mb_Ra_isTouched : Cond.code m_Ra_isTouched.1 m_Ra_isTouched.2.1 m_Ra_isTouched.2.2.1 m_Ra_isTouched.2.2.2.1 ∈ am_tbl := am_in4 94 (by decide +kernel) (by decide +kernel)
theorem mz_Ra_isTouched : plainFor m_Ra_isTouched.1 = true ∧ (m_Ra_isTouched.1.cls ≠ "java/lang/invoke/MethodHandle" ∧ m_Ra_isTouched.1.cls ≠ "java/lang/invoke/VarHandle" ∧ (parseMethodDescriptor m_Ra_isTouched.1.desc).map (fun d => d.parameters.length) = some 1) := by decide +kernel
theorem mi_Ra_isTouched : Cond.instanceMethod m_Ra_isTouched.1 ∈ am_tbl := am_in4 92 (by decide +kernel) (by decide +kernel)
theorem se_Ra_isTouched : Cond.selects m_Ra_isTouched.1.cls m_Ra_isTouched.1 m_Ra_isTouched.1 ∈ am_tbl := am_in4 93 (by decide +kernel) (by decide +kernel)
theorem mb_Sp_best : Cond.code m_Sp_best.1 m_Sp_best.2.1 m_Sp_best.2.2.1 m_Sp_best.2.2.2.1 ∈ am_tbl := am_in4 98 (by decide +kernel) (by decide +kernel)
theorem mz_Sp_best : plainFor m_Sp_best.1 = true ∧ (m_Sp_best.1.cls ≠ "java/lang/invoke/MethodHandle" ∧ m_Sp_best.1.cls ≠ "java/lang/invoke/VarHandle" ∧ (parseMethodDescriptor m_Sp_best.1.desc).map (fun d => d.parameters.length) = some 1) := by decide +kernel
theorem mi_Sp_best : Cond.instanceMethod m_Sp_best.1 ∈ am_tbl := am_in4 96 (by decide +kernel) (by decide +kernel)
theorem se_Sp_best : Cond.selects m_Sp_best.1.cls m_Sp_best.1 m_Sp_best.1 ∈ am_tbl := am_in4 97 (by decide +kernel) (by decide +kernel)
theorem mb_Re_findBestEar : Cond.code m_Re_findBestEar.1 m_Re_findBestEar.2.1 m_Re_findBestEar.2.2.1 m_Re_findBestEar.2.2.2.1 ∈ am_tbl := am_in4 102 (by decide +kernel) (by decide +kernel)
theorem mz_Re_findBestEar : plainFor m_Re_findBestEar.1 = true ∧ (m_Re_findBestEar.1.cls ≠ "java/lang/invoke/MethodHandle" ∧ m_Re_findBestEar.1.cls ≠ "java/lang/invoke/VarHandle" ∧ (parseMethodDescriptor m_Re_findBestEar.1.desc).map (fun d => d.parameters.length) = some 0) := by decide +kernel
theorem mi_Re_findBestEar : Cond.instanceMethod m_Re_findBestEar.1 ∈ am_tbl := am_in4 100 (by decide +kernel) (by decide +kernel)
theorem se_Re_findBestEar : Cond.selects m_Re_findBestEar.1.cls m_Re_findBestEar.1 m_Re_findBestEar.1 ∈ am_tbl := am_in4 101 (by decide +kernel) (by decide +kernel)
theorem mb_Re_resolvedWith : Cond.code m_Re_resolvedWith.1 m_Re_resolvedWith.2.1 m_Re_resolvedWith.2.2.1 m_Re_resolvedWith.2.2.2.1 ∈ am_tbl := am_in4 106 (by decide +kernel) (by decide +kernel)
theorem mz_Re_resolvedWith : plainFor m_Re_resolvedWith.1 = true ∧ (m_Re_resolvedWith.1.cls ≠ "java/lang/invoke/MethodHandle" ∧ m_Re_resolvedWith.1.cls ≠ "java/lang/invoke/VarHandle" ∧ (parseMethodDescriptor m_Re_resolvedWith.1.desc).map (fun d => d.parameters.length) = some 1) := by decide +kernel
theorem mi_Re_resolvedWith : Cond.instanceMethod m_Re_resolvedWith.1 ∈ am_tbl := am_in4 105 (by decide +kernel) (by decide +kernel)
theorem se_Re_resolvedWith : Cond.selects m_Re_resolvedWith.1.cls m_Re_resolvedWith.1 m_Re_resolvedWith.1 ∈ am_tbl := am_inS (q := (⟨"ShakePictures$Resolver", "resolvedWith", "(I)I"⟩, 8)) 16 (by decide +kernel)
theorem mb_Ba_copyFrom : Cond.code m_Ba_copyFrom.1 m_Ba_copyFrom.2.1 m_Ba_copyFrom.2.2.1 m_Ba_copyFrom.2.2.2.1 ∈ am_tbl := am_in4 110 (by decide +kernel) (by decide +kernel)
theorem mz_Ba_copyFrom : plainFor m_Ba_copyFrom.1 = true ∧ (m_Ba_copyFrom.1.cls ≠ "java/lang/invoke/MethodHandle" ∧ m_Ba_copyFrom.1.cls ≠ "java/lang/invoke/VarHandle" ∧ (parseMethodDescriptor m_Ba_copyFrom.1.desc).map (fun d => d.parameters.length) = some 1) := by decide +kernel
theorem mi_Ba_copyFrom : Cond.instanceMethod m_Ba_copyFrom.1 ∈ am_tbl := am_in4 108 (by decide +kernel) (by decide +kernel)
theorem se_Ba_copyFrom : Cond.selects m_Ba_copyFrom.1.cls m_Ba_copyFrom.1 m_Ba_copyFrom.1 ∈ am_tbl := am_in4 109 (by decide +kernel) (by decide +kernel)
theorem mb_Ba_countResolved : Cond.code m_Ba_countResolved.1 m_Ba_countResolved.2.1 m_Ba_countResolved.2.2.1 m_Ba_countResolved.2.2.2.1 ∈ am_tbl := am_in4 117 (by decide +kernel) (by decide +kernel)
theorem mz_Ba_countResolved : plainFor m_Ba_countResolved.1 = true ∧ (m_Ba_countResolved.1.cls ≠ "java/lang/invoke/MethodHandle" ∧ m_Ba_countResolved.1.cls ≠ "java/lang/invoke/VarHandle" ∧ (parseMethodDescriptor m_Ba_countResolved.1.desc).map (fun d => d.parameters.length) = some 0) := by decide +kernel
theorem mi_Ba_countResolved : Cond.instanceMethod m_Ba_countResolved.1 ∈ am_tbl := am_in4 115 (by decide +kernel) (by decide +kernel)
theorem se_Ba_countResolved : Cond.selects m_Ba_countResolved.1.cls m_Ba_countResolved.1 m_Ba_countResolved.1 ∈ am_tbl := am_in4 116 (by decide +kernel) (by decide +kernel)
theorem mb_Sp_heap : Cond.code m_Sp_heap.1 m_Sp_heap.2.1 m_Sp_heap.2.2.1 m_Sp_heap.2.2.2.1 ∈ am_tbl := am_in4 122 (by decide +kernel) (by decide +kernel)
theorem mz_Sp_heap : plainFor m_Sp_heap.1 = true ∧ (m_Sp_heap.1.cls ≠ "java/lang/invoke/MethodHandle" ∧ m_Sp_heap.1.cls ≠ "java/lang/invoke/VarHandle" ∧ (parseMethodDescriptor m_Sp_heap.1.desc).map (fun d => d.parameters.length) = some 3) := by decide +kernel
theorem mi_Sp_heap : Cond.instanceMethod m_Sp_heap.1 ∈ am_tbl := am_in4 120 (by decide +kernel) (by decide +kernel)
theorem se_Sp_heap : Cond.selects m_Sp_heap.1.cls m_Sp_heap.1 m_Sp_heap.1 ∈ am_tbl := am_in4 121 (by decide +kernel) (by decide +kernel)
theorem mb_Fi_heapUp : Cond.code m_Fi_heapUp.1 m_Fi_heapUp.2.1 m_Fi_heapUp.2.2.1 m_Fi_heapUp.2.2.2.1 ∈ am_tbl := am_in4 126 (by decide +kernel) (by decide +kernel)
theorem mz_Fi_heapUp : plainFor m_Fi_heapUp.1 = true ∧ (m_Fi_heapUp.1.cls ≠ "java/lang/invoke/MethodHandle" ∧ m_Fi_heapUp.1.cls ≠ "java/lang/invoke/VarHandle" ∧ (parseMethodDescriptor m_Fi_heapUp.1.desc).map (fun d => d.parameters.length) = some 2) := by decide +kernel
theorem mi_Fi_heapUp : Cond.instanceMethod m_Fi_heapUp.1 ∈ am_tbl := am_in4 124 (by decide +kernel) (by decide +kernel)
theorem se_Fi_heapUp : Cond.selects m_Fi_heapUp.1.cls m_Fi_heapUp.1 m_Fi_heapUp.1 ∈ am_tbl := am_in4 125 (by decide +kernel) (by decide +kernel)
theorem mb_Fi_gatherBegun : Cond.code m_Fi_gatherBegun.1 m_Fi_gatherBegun.2.1 m_Fi_gatherBegun.2.2.1 m_Fi_gatherBegun.2.2.2.1 ∈ am_tbl := am_in4 130 (by decide +kernel) (by decide +kernel)
theorem mz_Fi_gatherBegun : plainFor m_Fi_gatherBegun.1 = true ∧ (m_Fi_gatherBegun.1.cls ≠ "java/lang/invoke/MethodHandle" ∧ m_Fi_gatherBegun.1.cls ≠ "java/lang/invoke/VarHandle" ∧ (parseMethodDescriptor m_Fi_gatherBegun.1.desc).map (fun d => d.parameters.length) = some 2) := by decide +kernel
theorem mi_Fi_gatherBegun : Cond.instanceMethod m_Fi_gatherBegun.1 ∈ am_tbl := am_in4 129 (by decide +kernel) (by decide +kernel)
theorem se_Fi_gatherBegun : Cond.selects m_Fi_gatherBegun.1.cls m_Fi_gatherBegun.1 m_Fi_gatherBegun.1 ∈ am_tbl := am_inS (q := (⟨"ShakePictures$Finder", "gatherBegun", "(II)V"⟩, 7)) 17 (by decide +kernel)
theorem mb_Fi_addSpan : Cond.code m_Fi_addSpan.1 m_Fi_addSpan.2.1 m_Fi_addSpan.2.2.1 m_Fi_addSpan.2.2.2.1 ∈ am_tbl := am_in4 137 (by decide +kernel) (by decide +kernel)
theorem mz_Fi_addSpan : plainFor m_Fi_addSpan.1 = true ∧ (m_Fi_addSpan.1.cls ≠ "java/lang/invoke/MethodHandle" ∧ m_Fi_addSpan.1.cls ≠ "java/lang/invoke/VarHandle" ∧ (parseMethodDescriptor m_Fi_addSpan.1.desc).map (fun d => d.parameters.length) = some 2) := by decide +kernel
theorem mi_Fi_addSpan : Cond.instanceMethod m_Fi_addSpan.1 ∈ am_tbl := am_in4 136 (by decide +kernel) (by decide +kernel)
theorem se_Fi_addSpan : Cond.selects m_Fi_addSpan.1.cls m_Fi_addSpan.1 m_Fi_addSpan.1 ∈ am_tbl := am_inS (q := (⟨"ShakePictures$Finder", "addSpan", "(II)V"⟩, 7)) 18 (by decide +kernel)
theorem mb_Fi_countFitting : Cond.code m_Fi_countFitting.1 m_Fi_countFitting.2.1 m_Fi_countFitting.2.2.1 m_Fi_countFitting.2.2.2.1 ∈ am_tbl := am_in4 143 (by decide +kernel) (by decide +kernel)
theorem mz_Fi_countFitting : plainFor m_Fi_countFitting.1 = true ∧ (m_Fi_countFitting.1.cls ≠ "java/lang/invoke/MethodHandle" ∧ m_Fi_countFitting.1.cls ≠ "java/lang/invoke/VarHandle" ∧ (parseMethodDescriptor m_Fi_countFitting.1.desc).map (fun d => d.parameters.length) = some 1) := by decide +kernel
theorem mi_Fi_countFitting : Cond.instanceMethod m_Fi_countFitting.1 ∈ am_tbl := am_in4 142 (by decide +kernel) (by decide +kernel)
theorem se_Fi_countFitting : Cond.selects m_Fi_countFitting.1.cls m_Fi_countFitting.1 m_Fi_countFitting.1 ∈ am_tbl := am_inS (q := (⟨"ShakePictures$Finder", "countFitting", "(I)I"⟩, 7)) 19 (by decide +kernel)
theorem mb_Sp_move : Cond.code m_Sp_move.1 m_Sp_move.2.1 m_Sp_move.2.2.1 m_Sp_move.2.2.2.1 ∈ am_tbl := am_in4 147 (by decide +kernel) (by decide +kernel)
theorem mz_Sp_move : plainFor m_Sp_move.1 = true ∧ (m_Sp_move.1.cls ≠ "java/lang/invoke/MethodHandle" ∧ m_Sp_move.1.cls ≠ "java/lang/invoke/VarHandle" ∧ (parseMethodDescriptor m_Sp_move.1.desc).map (fun d => d.parameters.length) = some 1) := by decide +kernel
theorem mi_Sp_move : Cond.instanceMethod m_Sp_move.1 ∈ am_tbl := am_in4 145 (by decide +kernel) (by decide +kernel)
theorem se_Sp_move : Cond.selects m_Sp_move.1.cls m_Sp_move.1 m_Sp_move.1 ∈ am_tbl := am_in4 146 (by decide +kernel) (by decide +kernel)
theorem mb_Bo_hasPicks : Cond.code m_Bo_hasPicks.1 m_Bo_hasPicks.2.1 m_Bo_hasPicks.2.2.1 m_Bo_hasPicks.2.2.2.1 ∈ am_tbl := am_in4 151 (by decide +kernel) (by decide +kernel)
theorem mz_Bo_hasPicks : plainFor m_Bo_hasPicks.1 = true ∧ (m_Bo_hasPicks.1.cls ≠ "java/lang/invoke/MethodHandle" ∧ m_Bo_hasPicks.1.cls ≠ "java/lang/invoke/VarHandle" ∧ (parseMethodDescriptor m_Bo_hasPicks.1.desc).map (fun d => d.parameters.length) = some 1) := by decide +kernel
theorem mi_Bo_hasPicks : Cond.instanceMethod m_Bo_hasPicks.1 ∈ am_tbl := am_in4 149 (by decide +kernel) (by decide +kernel)
theorem se_Bo_hasPicks : Cond.selects m_Bo_hasPicks.1.cls m_Bo_hasPicks.1 m_Bo_hasPicks.1 ∈ am_tbl := am_in4 150 (by decide +kernel) (by decide +kernel)
theorem mb_Fi_moveShake : Cond.code m_Fi_moveShake.1 m_Fi_moveShake.2.1 m_Fi_moveShake.2.2.1 m_Fi_moveShake.2.2.2.1 ∈ am_tbl := am_in4 155 (by decide +kernel) (by decide +kernel)
theorem mz_Fi_moveShake : plainFor m_Fi_moveShake.1 = true ∧ (m_Fi_moveShake.1.cls ≠ "java/lang/invoke/MethodHandle" ∧ m_Fi_moveShake.1.cls ≠ "java/lang/invoke/VarHandle" ∧ (parseMethodDescriptor m_Fi_moveShake.1.desc).map (fun d => d.parameters.length) = some 1) := by decide +kernel
theorem mi_Fi_moveShake : Cond.instanceMethod m_Fi_moveShake.1 ∈ am_tbl := am_in4 153 (by decide +kernel) (by decide +kernel)
theorem se_Fi_moveShake : Cond.selects m_Fi_moveShake.1.cls m_Fi_moveShake.1 m_Fi_moveShake.1 ∈ am_tbl := am_in4 154 (by decide +kernel) (by decide +kernel)
theorem mb_Sp_off : Cond.code m_Sp_off.1 m_Sp_off.2.1 m_Sp_off.2.2.1 m_Sp_off.2.2.2.1 ∈ am_tbl := am_in4 161 (by decide +kernel) (by decide +kernel)
theorem mz_Sp_off : plainFor m_Sp_off.1 = true ∧ (m_Sp_off.1.cls ≠ "java/lang/invoke/MethodHandle" ∧ m_Sp_off.1.cls ≠ "java/lang/invoke/VarHandle" ∧ (parseMethodDescriptor m_Sp_off.1.desc).map (fun d => d.parameters.length) = some 1) := by decide +kernel
theorem mi_Sp_off : Cond.instanceMethod m_Sp_off.1 ∈ am_tbl := am_in4 159 (by decide +kernel) (by decide +kernel)
theorem se_Sp_off : Cond.selects m_Sp_off.1.cls m_Sp_off.1 m_Sp_off.1 ∈ am_tbl := am_in4 160 (by decide +kernel) (by decide +kernel)
theorem mb_Fi_clockOff : Cond.code m_Fi_clockOff.1 m_Fi_clockOff.2.1 m_Fi_clockOff.2.2.1 m_Fi_clockOff.2.2.2.1 ∈ am_tbl := am_in4 165 (by decide +kernel) (by decide +kernel)
theorem mz_Fi_clockOff : plainFor m_Fi_clockOff.1 = true ∧ (m_Fi_clockOff.1.cls ≠ "java/lang/invoke/MethodHandle" ∧ m_Fi_clockOff.1.cls ≠ "java/lang/invoke/VarHandle" ∧ (parseMethodDescriptor m_Fi_clockOff.1.desc).map (fun d => d.parameters.length) = some 1) := by decide +kernel
theorem mi_Fi_clockOff : Cond.instanceMethod m_Fi_clockOff.1 ∈ am_tbl := am_in4 163 (by decide +kernel) (by decide +kernel)
theorem se_Fi_clockOff : Cond.selects m_Fi_clockOff.1.cls m_Fi_clockOff.1 m_Fi_clockOff.1 ∈ am_tbl := am_in4 164 (by decide +kernel) (by decide +kernel)
theorem mb_Sp_board : Cond.code m_Sp_board.1 m_Sp_board.2.1 m_Sp_board.2.2.1 m_Sp_board.2.2.2.1 ∈ am_tbl := am_in4 171 (by decide +kernel) (by decide +kernel)
theorem mz_Sp_board : plainFor m_Sp_board.1 = true ∧ (m_Sp_board.1.cls ≠ "java/lang/invoke/MethodHandle" ∧ m_Sp_board.1.cls ≠ "java/lang/invoke/VarHandle" ∧ (parseMethodDescriptor m_Sp_board.1.desc).map (fun d => d.parameters.length) = some 3) := by decide +kernel
theorem mi_Sp_board : Cond.instanceMethod m_Sp_board.1 ∈ am_tbl := am_in4 169 (by decide +kernel) (by decide +kernel)
theorem se_Sp_board : Cond.selects m_Sp_board.1.cls m_Sp_board.1 m_Sp_board.1 ∈ am_tbl := am_in4 170 (by decide +kernel) (by decide +kernel)
theorem mb_Me_keep : Cond.code m_Me_keep.1 m_Me_keep.2.1 m_Me_keep.2.2.1 m_Me_keep.2.2.2.1 ∈ am_tbl := am_in4 175 (by decide +kernel) (by decide +kernel)
theorem mz_Me_keep : plainFor m_Me_keep.1 = true ∧ (m_Me_keep.1.cls ≠ "java/lang/invoke/MethodHandle" ∧ m_Me_keep.1.cls ≠ "java/lang/invoke/VarHandle" ∧ (parseMethodDescriptor m_Me_keep.1.desc).map (fun d => d.parameters.length) = some 0) := by decide +kernel
theorem mi_Me_keep : Cond.instanceMethod m_Me_keep.1 ∈ am_tbl := am_in4 173 (by decide +kernel) (by decide +kernel)
theorem se_Me_keep : Cond.selects m_Me_keep.1.cls m_Me_keep.1 m_Me_keep.1 ∈ am_tbl := am_in4 174 (by decide +kernel) (by decide +kernel)
theorem mb_Gr_paintBoard : Cond.code m_Gr_paintBoard.1 m_Gr_paintBoard.2.1 m_Gr_paintBoard.2.2.1 m_Gr_paintBoard.2.2.2.1 ∈ am_tbl := am_in4 180 (by decide +kernel) (by decide +kernel)
theorem mz_Gr_paintBoard : plainFor m_Gr_paintBoard.1 = true ∧ (m_Gr_paintBoard.1.cls ≠ "java/lang/invoke/MethodHandle" ∧ m_Gr_paintBoard.1.cls ≠ "java/lang/invoke/VarHandle" ∧ (parseMethodDescriptor m_Gr_paintBoard.1.desc).map (fun d => d.parameters.length) = some 2) := by decide +kernel
theorem mi_Gr_paintBoard : Cond.instanceMethod m_Gr_paintBoard.1 ∈ am_tbl := am_in4 178 (by decide +kernel) (by decide +kernel)
theorem se_Gr_paintBoard : Cond.selects m_Gr_paintBoard.1.cls m_Gr_paintBoard.1 m_Gr_paintBoard.1 ∈ am_tbl := am_in4 179 (by decide +kernel) (by decide +kernel)
theorem mb_Gr_onBoard : Cond.code m_Gr_onBoard.1 m_Gr_onBoard.2.1 m_Gr_onBoard.2.2.1 m_Gr_onBoard.2.2.2.1 ∈ am_tbl := am_in4 183 (by decide +kernel) (by decide +kernel)
theorem mz_Gr_onBoard : plainFor m_Gr_onBoard.1 = true ∧ (m_Gr_onBoard.1.cls ≠ "java/lang/invoke/MethodHandle" ∧ m_Gr_onBoard.1.cls ≠ "java/lang/invoke/VarHandle" ∧ (parseMethodDescriptor m_Gr_onBoard.1.desc).map (fun d => d.parameters.length) = some 3) := by decide +kernel
theorem ms_Gr_onBoard : Cond.static m_Gr_onBoard.1 ∈ am_tbl := am_in4 182 (by decide +kernel) (by decide +kernel)
theorem mb_Ft_aimAtForetold : Cond.code m_Ft_aimAtForetold.1 m_Ft_aimAtForetold.2.1 m_Ft_aimAtForetold.2.2.1 m_Ft_aimAtForetold.2.2.2.1 ∈ am_tbl := am_in4 187 (by decide +kernel) (by decide +kernel)
theorem mz_Ft_aimAtForetold : plainFor m_Ft_aimAtForetold.1 = true ∧ (m_Ft_aimAtForetold.1.cls ≠ "java/lang/invoke/MethodHandle" ∧ m_Ft_aimAtForetold.1.cls ≠ "java/lang/invoke/VarHandle" ∧ (parseMethodDescriptor m_Ft_aimAtForetold.1.desc).map (fun d => d.parameters.length) = some 1) := by decide +kernel
theorem mi_Ft_aimAtForetold : Cond.instanceMethod m_Ft_aimAtForetold.1 ∈ am_tbl := am_in4 185 (by decide +kernel) (by decide +kernel)
theorem se_Ft_aimAtForetold : Cond.selects m_Ft_aimAtForetold.1.cls m_Ft_aimAtForetold.1 m_Ft_aimAtForetold.1 ∈ am_tbl := am_in4 186 (by decide +kernel) (by decide +kernel)
theorem mb_Gr_countAsOnBoard : Cond.code m_Gr_countAsOnBoard.1 m_Gr_countAsOnBoard.2.1 m_Gr_countAsOnBoard.2.2.1 m_Gr_countAsOnBoard.2.2.2.1 ∈ am_tbl := am_in4 193 (by decide +kernel) (by decide +kernel)
theorem mz_Gr_countAsOnBoard : plainFor m_Gr_countAsOnBoard.1 = true ∧ (m_Gr_countAsOnBoard.1.cls ≠ "java/lang/invoke/MethodHandle" ∧ m_Gr_countAsOnBoard.1.cls ≠ "java/lang/invoke/VarHandle" ∧ (parseMethodDescriptor m_Gr_countAsOnBoard.1.desc).map (fun d => d.parameters.length) = some 2) := by decide +kernel
theorem mi_Gr_countAsOnBoard : Cond.instanceMethod m_Gr_countAsOnBoard.1 ∈ am_tbl := am_in4 191 (by decide +kernel) (by decide +kernel)
theorem se_Gr_countAsOnBoard : Cond.selects m_Gr_countAsOnBoard.1.cls m_Gr_countAsOnBoard.1 m_Gr_countAsOnBoard.1 ∈ am_tbl := am_in4 192 (by decide +kernel) (by decide +kernel)
theorem mb_Me_bringBack : Cond.code m_Me_bringBack.1 m_Me_bringBack.2.1 m_Me_bringBack.2.2.1 m_Me_bringBack.2.2.2.1 ∈ am_tbl := am_in4 197 (by decide +kernel) (by decide +kernel)
theorem mz_Me_bringBack : plainFor m_Me_bringBack.1 = true ∧ (m_Me_bringBack.1.cls ≠ "java/lang/invoke/MethodHandle" ∧ m_Me_bringBack.1.cls ≠ "java/lang/invoke/VarHandle" ∧ (parseMethodDescriptor m_Me_bringBack.1.desc).map (fun d => d.parameters.length) = some 0) := by decide +kernel
theorem mi_Me_bringBack : Cond.instanceMethod m_Me_bringBack.1 ∈ am_tbl := am_in4 195 (by decide +kernel) (by decide +kernel)
theorem se_Me_bringBack : Cond.selects m_Me_bringBack.1.cls m_Me_bringBack.1 m_Me_bringBack.1 ∈ am_tbl := am_in4 196 (by decide +kernel) (by decide +kernel)
theorem mb_Sp_write : Cond.code m_Sp_write.1 m_Sp_write.2.1 m_Sp_write.2.2.1 m_Sp_write.2.2.2.1 ∈ am_tbl := am_in4 201 (by decide +kernel) (by decide +kernel)
theorem mz_Sp_write : plainFor m_Sp_write.1 = true ∧ (m_Sp_write.1.cls ≠ "java/lang/invoke/MethodHandle" ∧ m_Sp_write.1.cls ≠ "java/lang/invoke/VarHandle" ∧ (parseMethodDescriptor m_Sp_write.1.desc).map (fun d => d.parameters.length) = some 2) := by decide +kernel
theorem mi_Sp_write : Cond.instanceMethod m_Sp_write.1 ∈ am_tbl := am_in4 199 (by decide +kernel) (by decide +kernel)
theorem se_Sp_write : Cond.selects m_Sp_write.1.cls m_Sp_write.1 m_Sp_write.1 ∈ am_tbl := am_in4 200 (by decide +kernel) (by decide +kernel)
theorem mb_Sc_append : Cond.code m_Sc_append.1 m_Sc_append.2.1 m_Sc_append.2.2.1 m_Sc_append.2.2.2.1 ∈ am_tbl := am_in4 205 (by decide +kernel) (by decide +kernel)
theorem mz_Sc_append : plainFor m_Sc_append.1 = true ∧ (m_Sc_append.1.cls ≠ "java/lang/invoke/MethodHandle" ∧ m_Sc_append.1.cls ≠ "java/lang/invoke/VarHandle" ∧ (parseMethodDescriptor m_Sc_append.1.desc).map (fun d => d.parameters.length) = some 2) := by decide +kernel
theorem mi_Sc_append : Cond.instanceMethod m_Sc_append.1 ∈ am_tbl := am_in4 203 (by decide +kernel) (by decide +kernel)
theorem se_Sc_append : Cond.selects m_Sc_append.1.cls m_Sc_append.1 m_Sc_append.1 ∈ am_tbl := am_in4 204 (by decide +kernel) (by decide +kernel)
theorem mb_Sp_erase : Cond.code m_Sp_erase.1 m_Sp_erase.2.1 m_Sp_erase.2.2.1 m_Sp_erase.2.2.2.1 ∈ am_tbl := am_in4 210 (by decide +kernel) (by decide +kernel)
theorem mz_Sp_erase : plainFor m_Sp_erase.1 = true ∧ (m_Sp_erase.1.cls ≠ "java/lang/invoke/MethodHandle" ∧ m_Sp_erase.1.cls ≠ "java/lang/invoke/VarHandle" ∧ (parseMethodDescriptor m_Sp_erase.1.desc).map (fun d => d.parameters.length) = some 0) := by decide +kernel
theorem mi_Sp_erase : Cond.instanceMethod m_Sp_erase.1 ∈ am_tbl := am_in4 208 (by decide +kernel) (by decide +kernel)
theorem se_Sp_erase : Cond.selects m_Sp_erase.1.cls m_Sp_erase.1 m_Sp_erase.1 ∈ am_tbl := am_in4 209 (by decide +kernel) (by decide +kernel)
theorem mb_Sp_fault : Cond.code m_Sp_fault.1 m_Sp_fault.2.1 m_Sp_fault.2.2.1 m_Sp_fault.2.2.2.1 ∈ am_tbl := am_in4 214 (by decide +kernel) (by decide +kernel)
theorem mz_Sp_fault : plainFor m_Sp_fault.1 = true ∧ (m_Sp_fault.1.cls ≠ "java/lang/invoke/MethodHandle" ∧ m_Sp_fault.1.cls ≠ "java/lang/invoke/VarHandle" ∧ (parseMethodDescriptor m_Sp_fault.1.desc).map (fun d => d.parameters.length) = some 0) := by decide +kernel
theorem mi_Sp_fault : Cond.instanceMethod m_Sp_fault.1 ∈ am_tbl := am_in4 212 (by decide +kernel) (by decide +kernel)
theorem se_Sp_fault : Cond.selects m_Sp_fault.1.cls m_Sp_fault.1 m_Sp_fault.1 ∈ am_tbl := am_in4 213 (by decide +kernel) (by decide +kernel)
theorem mb_Sc_read : Cond.code m_Sc_read.1 m_Sc_read.2.1 m_Sc_read.2.2.1 m_Sc_read.2.2.2.1 ∈ am_tbl := am_in4 218 (by decide +kernel) (by decide +kernel)
theorem mz_Sc_read : plainFor m_Sc_read.1 = true ∧ (m_Sc_read.1.cls ≠ "java/lang/invoke/MethodHandle" ∧ m_Sc_read.1.cls ≠ "java/lang/invoke/VarHandle" ∧ (parseMethodDescriptor m_Sc_read.1.desc).map (fun d => d.parameters.length) = some 0) := by decide +kernel
theorem mi_Sc_read : Cond.instanceMethod m_Sc_read.1 ∈ am_tbl := am_in4 216 (by decide +kernel) (by decide +kernel)
theorem se_Sc_read : Cond.selects m_Sc_read.1.cls m_Sc_read.1 m_Sc_read.1 ∈ am_tbl := am_in4 217 (by decide +kernel) (by decide +kernel)
theorem mb_Sc_advance : Cond.code m_Sc_advance.1 m_Sc_advance.2.1 m_Sc_advance.2.2.1 m_Sc_advance.2.2.2.1 ∈ am_tbl := am_in4 222 (by decide +kernel) (by decide +kernel)
theorem mz_Sc_advance : plainFor m_Sc_advance.1 = true ∧ (m_Sc_advance.1.cls ≠ "java/lang/invoke/MethodHandle" ∧ m_Sc_advance.1.cls ≠ "java/lang/invoke/VarHandle" ∧ (parseMethodDescriptor m_Sc_advance.1.desc).map (fun d => d.parameters.length) = some 0) := by decide +kernel
theorem mi_Sc_advance : Cond.instanceMethod m_Sc_advance.1 ∈ am_tbl := am_in4 221 (by decide +kernel) (by decide +kernel)
theorem se_Sc_advance : Cond.selects m_Sc_advance.1.cls m_Sc_advance.1 m_Sc_advance.1 ∈ am_tbl := am_inS (q := (⟨"ShakePictures$Script", "advance", "()V"⟩, 12)) 20 (by decide +kernel)
theorem mb_Sc_sortAt : Cond.code m_Sc_sortAt.1 m_Sc_sortAt.2.1 m_Sc_sortAt.2.2.1 m_Sc_sortAt.2.2.2.1 ∈ am_tbl := am_in4 226 (by decide +kernel) (by decide +kernel)
theorem mz_Sc_sortAt : plainFor m_Sc_sortAt.1 = true ∧ (m_Sc_sortAt.1.cls ≠ "java/lang/invoke/MethodHandle" ∧ m_Sc_sortAt.1.cls ≠ "java/lang/invoke/VarHandle" ∧ (parseMethodDescriptor m_Sc_sortAt.1.desc).map (fun d => d.parameters.length) = some 1) := by decide +kernel
theorem mi_Sc_sortAt : Cond.instanceMethod m_Sc_sortAt.1 ∈ am_tbl := am_in4 225 (by decide +kernel) (by decide +kernel)
theorem se_Sc_sortAt : Cond.selects m_Sc_sortAt.1.cls m_Sc_sortAt.1 m_Sc_sortAt.1 ∈ am_tbl := am_inS (q := (⟨"ShakePictures$Script", "sortAt", "(I)I"⟩, 12)) 21 (by decide +kernel)
theorem mb_Sc_numberHere : Cond.code m_Sc_numberHere.1 m_Sc_numberHere.2.1 m_Sc_numberHere.2.2.1 m_Sc_numberHere.2.2.2.1 ∈ am_tbl := am_in4 230 (by decide +kernel) (by decide +kernel)
theorem mz_Sc_numberHere : plainFor m_Sc_numberHere.1 = true ∧ (m_Sc_numberHere.1.cls ≠ "java/lang/invoke/MethodHandle" ∧ m_Sc_numberHere.1.cls ≠ "java/lang/invoke/VarHandle" ∧ (parseMethodDescriptor m_Sc_numberHere.1.desc).map (fun d => d.parameters.length) = some 0) := by decide +kernel
theorem mi_Sc_numberHere : Cond.instanceMethod m_Sc_numberHere.1 ∈ am_tbl := am_in4 229 (by decide +kernel) (by decide +kernel)
theorem se_Sc_numberHere : Cond.selects m_Sc_numberHere.1.cls m_Sc_numberHere.1 m_Sc_numberHere.1 ∈ am_tbl := am_inS (q := (⟨"ShakePictures$Script", "numberHere", "()I"⟩, 12)) 22 (by decide +kernel)
theorem mb_Sc_readStatement : Cond.code m_Sc_readStatement.1 m_Sc_readStatement.2.1 m_Sc_readStatement.2.2.1 m_Sc_readStatement.2.2.2.1 ∈ am_tbl := am_in4 234 (by decide +kernel) (by decide +kernel)
theorem mz_Sc_readStatement : plainFor m_Sc_readStatement.1 = true ∧ (m_Sc_readStatement.1.cls ≠ "java/lang/invoke/MethodHandle" ∧ m_Sc_readStatement.1.cls ≠ "java/lang/invoke/VarHandle" ∧ (parseMethodDescriptor m_Sc_readStatement.1.desc).map (fun d => d.parameters.length) = some 0) := by decide +kernel
theorem mi_Sc_readStatement : Cond.instanceMethod m_Sc_readStatement.1 ∈ am_tbl := am_in4 233 (by decide +kernel) (by decide +kernel)
theorem se_Sc_readStatement : Cond.selects m_Sc_readStatement.1.cls m_Sc_readStatement.1 m_Sc_readStatement.1 ∈ am_tbl := am_inS (q := (⟨"ShakePictures$Script", "readStatement", "()Z"⟩, 12)) 23 (by decide +kernel)
theorem mb_Sc_verbHere : Cond.code m_Sc_verbHere.1 m_Sc_verbHere.2.1 m_Sc_verbHere.2.2.1 m_Sc_verbHere.2.2.2.1 ∈ am_tbl := am_in4 238 (by decide +kernel) (by decide +kernel)
theorem mz_Sc_verbHere : plainFor m_Sc_verbHere.1 = true ∧ (m_Sc_verbHere.1.cls ≠ "java/lang/invoke/MethodHandle" ∧ m_Sc_verbHere.1.cls ≠ "java/lang/invoke/VarHandle" ∧ (parseMethodDescriptor m_Sc_verbHere.1.desc).map (fun d => d.parameters.length) = some 0) := by decide +kernel
theorem mi_Sc_verbHere : Cond.instanceMethod m_Sc_verbHere.1 ∈ am_tbl := am_in4 237 (by decide +kernel) (by decide +kernel)
theorem se_Sc_verbHere : Cond.selects m_Sc_verbHere.1.cls m_Sc_verbHere.1 m_Sc_verbHere.1 ∈ am_tbl := am_inS (q := (⟨"ShakePictures$Script", "verbHere", "()I"⟩, 12)) 24 (by decide +kernel)
theorem mb_Sc_wordOf : Cond.code m_Sc_wordOf.1 m_Sc_wordOf.2.1 m_Sc_wordOf.2.2.1 m_Sc_wordOf.2.2.2.1 ∈ am_tbl := am_in5 1 (by decide +kernel) (by decide +kernel)
theorem mz_Sc_wordOf : plainFor m_Sc_wordOf.1 = true ∧ (m_Sc_wordOf.1.cls ≠ "java/lang/invoke/MethodHandle" ∧ m_Sc_wordOf.1.cls ≠ "java/lang/invoke/VarHandle" ∧ (parseMethodDescriptor m_Sc_wordOf.1.desc).map (fun d => d.parameters.length) = some 1) := by decide +kernel
theorem ms_Sc_wordOf : Cond.static m_Sc_wordOf.1 ∈ am_tbl := am_in5 0 (by decide +kernel) (by decide +kernel)
theorem mb_Sc_isWord : Cond.code m_Sc_isWord.1 m_Sc_isWord.2.1 m_Sc_isWord.2.2.1 m_Sc_isWord.2.2.2.1 ∈ am_tbl := am_in5 10 (by decide +kernel) (by decide +kernel)
theorem mz_Sc_isWord : plainFor m_Sc_isWord.1 = true ∧ (m_Sc_isWord.1.cls ≠ "java/lang/invoke/MethodHandle" ∧ m_Sc_isWord.1.cls ≠ "java/lang/invoke/VarHandle" ∧ (parseMethodDescriptor m_Sc_isWord.1.desc).map (fun d => d.parameters.length) = some 1) := by decide +kernel
theorem mi_Sc_isWord : Cond.instanceMethod m_Sc_isWord.1 ∈ am_tbl := am_in5 9 (by decide +kernel) (by decide +kernel)
theorem se_Sc_isWord : Cond.selects m_Sc_isWord.1.cls m_Sc_isWord.1 m_Sc_isWord.1 ∈ am_tbl := am_inS (q := (⟨"ShakePictures$Script", "isWord", "(Ljava/lang/String;)Z"⟩, 12)) 25 (by decide +kernel)
theorem mb_St_length : Cond.code m_St_length.1 m_St_length.2.1 m_St_length.2.2.1 m_St_length.2.2.2.1 ∈ am_tbl := am_in5 14 (by decide +kernel) (by decide +kernel)
theorem mz_St_length : plainFor m_St_length.1 = true ∧ (m_St_length.1.cls ≠ "java/lang/invoke/MethodHandle" ∧ m_St_length.1.cls ≠ "java/lang/invoke/VarHandle" ∧ (parseMethodDescriptor m_St_length.1.desc).map (fun d => d.parameters.length) = some 0) := by decide +kernel
theorem mi_St_length : Cond.instanceMethod m_St_length.1 ∈ am_tbl := am_in5 12 (by decide +kernel) (by decide +kernel)
theorem se_St_length : Cond.selects m_St_length.1.cls m_St_length.1 m_St_length.1 ∈ am_tbl := am_in5 13 (by decide +kernel) (by decide +kernel)
theorem mb_St_coder : Cond.code m_St_coder.1 m_St_coder.2.1 m_St_coder.2.2.1 m_St_coder.2.2.2.1 ∈ am_tbl := am_in5 18 (by decide +kernel) (by decide +kernel)
theorem mz_St_coder : plainFor m_St_coder.1 = true ∧ (m_St_coder.1.cls ≠ "java/lang/invoke/MethodHandle" ∧ m_St_coder.1.cls ≠ "java/lang/invoke/VarHandle" ∧ (parseMethodDescriptor m_St_coder.1.desc).map (fun d => d.parameters.length) = some 0) := by decide +kernel
theorem mi_St_coder : Cond.instanceMethod m_St_coder.1 ∈ am_tbl := am_in5 16 (by decide +kernel) (by decide +kernel)
theorem se_St_coder : Cond.selects m_St_coder.1.cls m_St_coder.1 m_St_coder.1 ∈ am_tbl := am_in5 17 (by decide +kernel) (by decide +kernel)
theorem mb_St_charAt : Cond.code m_St_charAt.1 m_St_charAt.2.1 m_St_charAt.2.2.1 m_St_charAt.2.2.2.1 ∈ am_tbl := am_in5 24 (by decide +kernel) (by decide +kernel)
theorem mz_St_charAt : plainFor m_St_charAt.1 = true ∧ (m_St_charAt.1.cls ≠ "java/lang/invoke/MethodHandle" ∧ m_St_charAt.1.cls ≠ "java/lang/invoke/VarHandle" ∧ (parseMethodDescriptor m_St_charAt.1.desc).map (fun d => d.parameters.length) = some 1) := by decide +kernel
theorem mi_St_charAt : Cond.instanceMethod m_St_charAt.1 ∈ am_tbl := am_in5 22 (by decide +kernel) (by decide +kernel)
theorem se_St_charAt : Cond.selects m_St_charAt.1.cls m_St_charAt.1 m_St_charAt.1 ∈ am_tbl := am_in5 23 (by decide +kernel) (by decide +kernel)
theorem mb_St_isLatin1 : Cond.code m_St_isLatin1.1 m_St_isLatin1.2.1 m_St_isLatin1.2.2.1 m_St_isLatin1.2.2.2.1 ∈ am_tbl := am_in5 28 (by decide +kernel) (by decide +kernel)
theorem mz_St_isLatin1 : plainFor m_St_isLatin1.1 = true ∧ (m_St_isLatin1.1.cls ≠ "java/lang/invoke/MethodHandle" ∧ m_St_isLatin1.1.cls ≠ "java/lang/invoke/VarHandle" ∧ (parseMethodDescriptor m_St_isLatin1.1.desc).map (fun d => d.parameters.length) = some 0) := by decide +kernel
theorem mi_St_isLatin1 : Cond.instanceMethod m_St_isLatin1.1 ∈ am_tbl := am_in5 26 (by decide +kernel) (by decide +kernel)
theorem se_St_isLatin1 : Cond.selects m_St_isLatin1.1.cls m_St_isLatin1.1 m_St_isLatin1.1 ∈ am_tbl := am_in5 27 (by decide +kernel) (by decide +kernel)
theorem mb_L1_charAt : Cond.code m_L1_charAt.1 m_L1_charAt.2.1 m_L1_charAt.2.2.1 m_L1_charAt.2.2.2.1 ∈ am_tbl := am_in5 31 (by decide +kernel) (by decide +kernel)
theorem mz_L1_charAt : plainFor m_L1_charAt.1 = true ∧ (m_L1_charAt.1.cls ≠ "java/lang/invoke/MethodHandle" ∧ m_L1_charAt.1.cls ≠ "java/lang/invoke/VarHandle" ∧ (parseMethodDescriptor m_L1_charAt.1.desc).map (fun d => d.parameters.length) = some 2) := by decide +kernel
theorem ms_L1_charAt : Cond.static m_L1_charAt.1 ∈ am_tbl := am_in5 30 (by decide +kernel) (by decide +kernel)
theorem mb_St_checkIndex : Cond.code m_St_checkIndex.1 m_St_checkIndex.2.1 m_St_checkIndex.2.2.1 m_St_checkIndex.2.2.2.1 ∈ am_tbl := am_in5 34 (by decide +kernel) (by decide +kernel)
theorem mz_St_checkIndex : plainFor m_St_checkIndex.1 = true ∧ (m_St_checkIndex.1.cls ≠ "java/lang/invoke/MethodHandle" ∧ m_St_checkIndex.1.cls ≠ "java/lang/invoke/VarHandle" ∧ (parseMethodDescriptor m_St_checkIndex.1.desc).map (fun d => d.parameters.length) = some 2) := by decide +kernel
theorem ms_St_checkIndex : Cond.static m_St_checkIndex.1 ∈ am_tbl := am_in5 33 (by decide +kernel) (by decide +kernel)
theorem mb_Pc_checkIndex : Cond.code m_Pc_checkIndex.1 m_Pc_checkIndex.2.1 m_Pc_checkIndex.2.2.1 m_Pc_checkIndex.2.2.2.1 ∈ am_tbl := am_in5 39 (by decide +kernel) (by decide +kernel)
theorem mz_Pc_checkIndex : plainFor m_Pc_checkIndex.1 = true ∧ (m_Pc_checkIndex.1.cls ≠ "java/lang/invoke/MethodHandle" ∧ m_Pc_checkIndex.1.cls ≠ "java/lang/invoke/VarHandle" ∧ (parseMethodDescriptor m_Pc_checkIndex.1.desc).map (fun d => d.parameters.length) = some 3) := by decide +kernel
theorem ms_Pc_checkIndex : Cond.static m_Pc_checkIndex.1 ∈ am_tbl := am_in5 38 (by decide +kernel) (by decide +kernel)
theorem mb_Sc_readFirst : Cond.code m_Sc_readFirst.1 m_Sc_readFirst.2.1 m_Sc_readFirst.2.2.1 m_Sc_readFirst.2.2.2.1 ∈ am_tbl := am_in5 62 (by decide +kernel) (by decide +kernel)
theorem mz_Sc_readFirst : plainFor m_Sc_readFirst.1 = true ∧ (m_Sc_readFirst.1.cls ≠ "java/lang/invoke/MethodHandle" ∧ m_Sc_readFirst.1.cls ≠ "java/lang/invoke/VarHandle" ∧ (parseMethodDescriptor m_Sc_readFirst.1.desc).map (fun d => d.parameters.length) = some 2) := by decide +kernel
theorem mi_Sc_readFirst : Cond.instanceMethod m_Sc_readFirst.1 ∈ am_tbl := am_in5 61 (by decide +kernel) (by decide +kernel)
theorem se_Sc_readFirst : Cond.selects m_Sc_readFirst.1.cls m_Sc_readFirst.1 m_Sc_readFirst.1 ∈ am_tbl := am_inS (q := (⟨"ShakePictures$Script", "readFirst", "(II)Z"⟩, 12)) 26 (by decide +kernel)
theorem mb_Sc_passNumber : Cond.code m_Sc_passNumber.1 m_Sc_passNumber.2.1 m_Sc_passNumber.2.2.1 m_Sc_passNumber.2.2.2.1 ∈ am_tbl := am_in5 66 (by decide +kernel) (by decide +kernel)
theorem mz_Sc_passNumber : plainFor m_Sc_passNumber.1 = true ∧ (m_Sc_passNumber.1.cls ≠ "java/lang/invoke/MethodHandle" ∧ m_Sc_passNumber.1.cls ≠ "java/lang/invoke/VarHandle" ∧ (parseMethodDescriptor m_Sc_passNumber.1.desc).map (fun d => d.parameters.length) = some 2) := by decide +kernel
theorem mi_Sc_passNumber : Cond.instanceMethod m_Sc_passNumber.1 ∈ am_tbl := am_in5 65 (by decide +kernel) (by decide +kernel)
theorem se_Sc_passNumber : Cond.selects m_Sc_passNumber.1.cls m_Sc_passNumber.1 m_Sc_passNumber.1 ∈ am_tbl := am_inS (q := (⟨"ShakePictures$Script", "passNumber", "(II)Z"⟩, 12)) 27 (by decide +kernel)
theorem mb_Sc_readSecond : Cond.code m_Sc_readSecond.1 m_Sc_readSecond.2.1 m_Sc_readSecond.2.2.1 m_Sc_readSecond.2.2.2.1 ∈ am_tbl := am_in5 70 (by decide +kernel) (by decide +kernel)
theorem mz_Sc_readSecond : plainFor m_Sc_readSecond.1 = true ∧ (m_Sc_readSecond.1.cls ≠ "java/lang/invoke/MethodHandle" ∧ m_Sc_readSecond.1.cls ≠ "java/lang/invoke/VarHandle" ∧ (parseMethodDescriptor m_Sc_readSecond.1.desc).map (fun d => d.parameters.length) = some 2) := by decide +kernel
theorem mi_Sc_readSecond : Cond.instanceMethod m_Sc_readSecond.1 ∈ am_tbl := am_in5 69 (by decide +kernel) (by decide +kernel)
theorem se_Sc_readSecond : Cond.selects m_Sc_readSecond.1.cls m_Sc_readSecond.1 m_Sc_readSecond.1 ∈ am_tbl := am_inS (q := (⟨"ShakePictures$Script", "readSecond", "(II)Z"⟩, 12)) 28 (by decide +kernel)
theorem mb_Sc_readCells : Cond.code m_Sc_readCells.1 m_Sc_readCells.2.1 m_Sc_readCells.2.2.1 m_Sc_readCells.2.2.2.1 ∈ am_tbl := am_in5 74 (by decide +kernel) (by decide +kernel)
theorem mz_Sc_readCells : plainFor m_Sc_readCells.1 = true ∧ (m_Sc_readCells.1.cls ≠ "java/lang/invoke/MethodHandle" ∧ m_Sc_readCells.1.cls ≠ "java/lang/invoke/VarHandle" ∧ (parseMethodDescriptor m_Sc_readCells.1.desc).map (fun d => d.parameters.length) = some 0) := by decide +kernel
theorem mi_Sc_readCells : Cond.instanceMethod m_Sc_readCells.1 ∈ am_tbl := am_in5 73 (by decide +kernel) (by decide +kernel)
theorem se_Sc_readCells : Cond.selects m_Sc_readCells.1.cls m_Sc_readCells.1 m_Sc_readCells.1 ∈ am_tbl := am_inS (q := (⟨"ShakePictures$Script", "readCells", "()Z"⟩, 12)) 29 (by decide +kernel)
theorem mb_Sp_run : Cond.code m_Sp_run.1 m_Sp_run.2.1 m_Sp_run.2.2.1 m_Sp_run.2.2.2.1 ∈ am_tbl := am_in5 81 (by decide +kernel) (by decide +kernel)
theorem mz_Sp_run : plainFor m_Sp_run.1 = true ∧ (m_Sp_run.1.cls ≠ "java/lang/invoke/MethodHandle" ∧ m_Sp_run.1.cls ≠ "java/lang/invoke/VarHandle" ∧ (parseMethodDescriptor m_Sp_run.1.desc).map (fun d => d.parameters.length) = some 0) := by decide +kernel
theorem mi_Sp_run : Cond.instanceMethod m_Sp_run.1 ∈ am_tbl := am_in5 79 (by decide +kernel) (by decide +kernel)
theorem se_Sp_run : Cond.selects m_Sp_run.1.cls m_Sp_run.1 m_Sp_run.1 ∈ am_tbl := am_in5 80 (by decide +kernel) (by decide +kernel)
theorem mb_Sp_obey : Cond.code m_Sp_obey.1 m_Sp_obey.2.1 m_Sp_obey.2.2.1 m_Sp_obey.2.2.2.1 ∈ am_tbl := am_in5 85 (by decide +kernel) (by decide +kernel)
theorem mz_Sp_obey : plainFor m_Sp_obey.1 = true ∧ (m_Sp_obey.1.cls ≠ "java/lang/invoke/MethodHandle" ∧ m_Sp_obey.1.cls ≠ "java/lang/invoke/VarHandle" ∧ (parseMethodDescriptor m_Sp_obey.1.desc).map (fun d => d.parameters.length) = some 3) := by decide +kernel
theorem mi_Sp_obey : Cond.instanceMethod m_Sp_obey.1 ∈ am_tbl := am_in5 84 (by decide +kernel) (by decide +kernel)
theorem se_Sp_obey : Cond.selects m_Sp_obey.1.cls m_Sp_obey.1 m_Sp_obey.1 ∈ am_tbl := am_inS (q := (⟨"ShakePictures", "obey", "(III)Z"⟩, 9)) 30 (by decide +kernel)
theorem mb_Sp_count : Cond.code m_Sp_count.1 m_Sp_count.2.1 m_Sp_count.2.2.1 m_Sp_count.2.2.2.1 ∈ am_tbl := am_in5 89 (by decide +kernel) (by decide +kernel)
theorem mz_Sp_count : plainFor m_Sp_count.1 = true ∧ (m_Sp_count.1.cls ≠ "java/lang/invoke/MethodHandle" ∧ m_Sp_count.1.cls ≠ "java/lang/invoke/VarHandle" ∧ (parseMethodDescriptor m_Sp_count.1.desc).map (fun d => d.parameters.length) = some 1) := by decide +kernel
theorem mi_Sp_count : Cond.instanceMethod m_Sp_count.1 ∈ am_tbl := am_in5 87 (by decide +kernel) (by decide +kernel)
theorem se_Sp_count : Cond.selects m_Sp_count.1.cls m_Sp_count.1 m_Sp_count.1 ∈ am_tbl := am_in5 88 (by decide +kernel) (by decide +kernel)
theorem mb_Mo_init : Cond.code m_Mo_init.1 m_Mo_init.2.1 m_Mo_init.2.2.1 m_Mo_init.2.2.2.1 ∈ am_tbl := am_in5 95 (by decide +kernel) (by decide +kernel)
theorem mz_Mo_init : plainFor m_Mo_init.1 = true ∧ (m_Mo_init.1.cls ≠ "java/lang/invoke/MethodHandle" ∧ m_Mo_init.1.cls ≠ "java/lang/invoke/VarHandle" ∧ (parseMethodDescriptor m_Mo_init.1.desc).map (fun d => d.parameters.length) = some 0) := by decide +kernel
theorem mi_Mo_init : Cond.instanceMethod m_Mo_init.1 ∈ am_tbl := am_in5 94 (by decide +kernel) (by decide +kernel)
theorem mb_Mo_ground : Cond.code m_Mo_ground.1 m_Mo_ground.2.1 m_Mo_ground.2.2.1 m_Mo_ground.2.2.2.1 ∈ am_tbl := am_in6 14 (by decide +kernel) (by decide +kernel)
theorem mz_Mo_ground : plainFor m_Mo_ground.1 = true ∧ (m_Mo_ground.1.cls ≠ "java/lang/invoke/MethodHandle" ∧ m_Mo_ground.1.cls ≠ "java/lang/invoke/VarHandle" ∧ (parseMethodDescriptor m_Mo_ground.1.desc).map (fun d => d.parameters.length) = some 2) := by decide +kernel
theorem mi_Mo_ground : Cond.instanceMethod m_Mo_ground.1 ∈ am_tbl := am_in6 12 (by decide +kernel) (by decide +kernel)
theorem se_Mo_ground : Cond.selects m_Mo_ground.1.cls m_Mo_ground.1 m_Mo_ground.1 ∈ am_tbl := am_in6 13 (by decide +kernel) (by decide +kernel)
theorem mb_Mo_in : Cond.code m_Mo_in.1 m_Mo_in.2.1 m_Mo_in.2.2.1 m_Mo_in.2.2.2.1 ∈ am_tbl := am_in6 17 (by decide +kernel) (by decide +kernel)
theorem mz_Mo_in : plainFor m_Mo_in.1 = true ∧ (m_Mo_in.1.cls ≠ "java/lang/invoke/MethodHandle" ∧ m_Mo_in.1.cls ≠ "java/lang/invoke/VarHandle" ∧ (parseMethodDescriptor m_Mo_in.1.desc).map (fun d => d.parameters.length) = some 3) := by decide +kernel
theorem ms_Mo_in : Cond.static m_Mo_in.1 ∈ am_tbl := am_in6 16 (by decide +kernel) (by decide +kernel)
theorem mb_Mo_cells : Cond.code m_Mo_cells.1 m_Mo_cells.2.1 m_Mo_cells.2.2.1 m_Mo_cells.2.2.2.1 ∈ am_tbl := am_in6 21 (by decide +kernel) (by decide +kernel)
theorem mz_Mo_cells : plainFor m_Mo_cells.1 = true ∧ (m_Mo_cells.1.cls ≠ "java/lang/invoke/MethodHandle" ∧ m_Mo_cells.1.cls ≠ "java/lang/invoke/VarHandle" ∧ (parseMethodDescriptor m_Mo_cells.1.desc).map (fun d => d.parameters.length) = some 0) := by decide +kernel
theorem mi_Mo_cells : Cond.instanceMethod m_Mo_cells.1 ∈ am_tbl := am_in6 20 (by decide +kernel) (by decide +kernel)
theorem se_Mo_cells : Cond.selects m_Mo_cells.1.cls m_Mo_cells.1 m_Mo_cells.1 ∈ am_tbl := am_inS (q := (⟨"ShakePicturesModel", "cells", "()I"⟩, 51)) 31 (by decide +kernel)
theorem mb_Mo_ratio : Cond.code m_Mo_ratio.1 m_Mo_ratio.2.1 m_Mo_ratio.2.2.1 m_Mo_ratio.2.2.2.1 ∈ am_tbl := am_in6 25 (by decide +kernel) (by decide +kernel)
theorem mz_Mo_ratio : plainFor m_Mo_ratio.1 = true ∧ (m_Mo_ratio.1.cls ≠ "java/lang/invoke/MethodHandle" ∧ m_Mo_ratio.1.cls ≠ "java/lang/invoke/VarHandle" ∧ (parseMethodDescriptor m_Mo_ratio.1.desc).map (fun d => d.parameters.length) = some 1) := by decide +kernel
theorem mi_Mo_ratio : Cond.instanceMethod m_Mo_ratio.1 ∈ am_tbl := am_in6 23 (by decide +kernel) (by decide +kernel)
theorem se_Mo_ratio : Cond.selects m_Mo_ratio.1.cls m_Mo_ratio.1 m_Mo_ratio.1 ∈ am_tbl := am_in6 24 (by decide +kernel) (by decide +kernel)
theorem mb_Mo_slow : Cond.code m_Mo_slow.1 m_Mo_slow.2.1 m_Mo_slow.2.2.1 m_Mo_slow.2.2.2.1 ∈ am_tbl := am_in6 29 (by decide +kernel) (by decide +kernel)
theorem mz_Mo_slow : plainFor m_Mo_slow.1 = true ∧ (m_Mo_slow.1.cls ≠ "java/lang/invoke/MethodHandle" ∧ m_Mo_slow.1.cls ≠ "java/lang/invoke/VarHandle" ∧ (parseMethodDescriptor m_Mo_slow.1.desc).map (fun d => d.parameters.length) = some 2) := by decide +kernel
theorem mi_Mo_slow : Cond.instanceMethod m_Mo_slow.1 ∈ am_tbl := am_in6 27 (by decide +kernel) (by decide +kernel)
theorem se_Mo_slow : Cond.selects m_Mo_slow.1.cls m_Mo_slow.1 m_Mo_slow.1 ∈ am_tbl := am_in6 28 (by decide +kernel) (by decide +kernel)
theorem mb_Mo_isBlock : Cond.code m_Mo_isBlock.1 m_Mo_isBlock.2.1 m_Mo_isBlock.2.2.1 m_Mo_isBlock.2.2.2.1 ∈ am_tbl := am_in6 32 (by decide +kernel) (by decide +kernel)
theorem mz_Mo_isBlock : plainFor m_Mo_isBlock.1 = true ∧ (m_Mo_isBlock.1.cls ≠ "java/lang/invoke/MethodHandle" ∧ m_Mo_isBlock.1.cls ≠ "java/lang/invoke/VarHandle" ∧ (parseMethodDescriptor m_Mo_isBlock.1.desc).map (fun d => d.parameters.length) = some 1) := by decide +kernel
theorem ms_Mo_isBlock : Cond.static m_Mo_isBlock.1 ∈ am_tbl := am_in6 31 (by decide +kernel) (by decide +kernel)
theorem mb_Mo_split : Cond.code m_Mo_split.1 m_Mo_split.2.1 m_Mo_split.2.2.1 m_Mo_split.2.2.2.1 ∈ am_tbl := am_in6 36 (by decide +kernel) (by decide +kernel)
theorem mz_Mo_split : plainFor m_Mo_split.1 = true ∧ (m_Mo_split.1.cls ≠ "java/lang/invoke/MethodHandle" ∧ m_Mo_split.1.cls ≠ "java/lang/invoke/VarHandle" ∧ (parseMethodDescriptor m_Mo_split.1.desc).map (fun d => d.parameters.length) = some 2) := by decide +kernel
theorem mi_Mo_split : Cond.instanceMethod m_Mo_split.1 ∈ am_tbl := am_in6 34 (by decide +kernel) (by decide +kernel)
theorem se_Mo_split : Cond.selects m_Mo_split.1.cls m_Mo_split.1 m_Mo_split.1 ∈ am_tbl := am_in6 35 (by decide +kernel) (by decide +kernel)
theorem mb_Mo_sizeOf : Cond.code m_Mo_sizeOf.1 m_Mo_sizeOf.2.1 m_Mo_sizeOf.2.2.1 m_Mo_sizeOf.2.2.2.1 ∈ am_tbl := am_in6 40 (by decide +kernel) (by decide +kernel)
theorem mz_Mo_sizeOf : plainFor m_Mo_sizeOf.1 = true ∧ (m_Mo_sizeOf.1.cls ≠ "java/lang/invoke/MethodHandle" ∧ m_Mo_sizeOf.1.cls ≠ "java/lang/invoke/VarHandle" ∧ (parseMethodDescriptor m_Mo_sizeOf.1.desc).map (fun d => d.parameters.length) = some 1) := by decide +kernel
theorem mi_Mo_sizeOf : Cond.instanceMethod m_Mo_sizeOf.1 ∈ am_tbl := am_in6 39 (by decide +kernel) (by decide +kernel)
theorem se_Mo_sizeOf : Cond.selects m_Mo_sizeOf.1.cls m_Mo_sizeOf.1 m_Mo_sizeOf.1 ∈ am_tbl := am_inS (q := (⟨"ShakePicturesModel", "sizeOf", "(I)I"⟩, 51)) 32 (by decide +kernel)
theorem mb_Mo_join : Cond.code m_Mo_join.1 m_Mo_join.2.1 m_Mo_join.2.2.1 m_Mo_join.2.2.2.1 ∈ am_tbl := am_in6 44 (by decide +kernel) (by decide +kernel)
theorem mz_Mo_join : plainFor m_Mo_join.1 = true ∧ (m_Mo_join.1.cls ≠ "java/lang/invoke/MethodHandle" ∧ m_Mo_join.1.cls ≠ "java/lang/invoke/VarHandle" ∧ (parseMethodDescriptor m_Mo_join.1.desc).map (fun d => d.parameters.length) = some 2) := by decide +kernel
theorem mi_Mo_join : Cond.instanceMethod m_Mo_join.1 ∈ am_tbl := am_in6 42 (by decide +kernel) (by decide +kernel)
theorem se_Mo_join : Cond.selects m_Mo_join.1.cls m_Mo_join.1 m_Mo_join.1 ∈ am_tbl := am_in6 43 (by decide +kernel) (by decide +kernel)
theorem mb_Mo_at : Cond.code m_Mo_at.1 m_Mo_at.2.1 m_Mo_at.2.2.1 m_Mo_at.2.2.2.1 ∈ am_tbl := am_in6 48 (by decide +kernel) (by decide +kernel)
theorem mz_Mo_at : plainFor m_Mo_at.1 = true ∧ (m_Mo_at.1.cls ≠ "java/lang/invoke/MethodHandle" ∧ m_Mo_at.1.cls ≠ "java/lang/invoke/VarHandle" ∧ (parseMethodDescriptor m_Mo_at.1.desc).map (fun d => d.parameters.length) = some 2) := by decide +kernel
theorem mi_Mo_at : Cond.instanceMethod m_Mo_at.1 ∈ am_tbl := am_in6 46 (by decide +kernel) (by decide +kernel)
theorem se_Mo_at : Cond.selects m_Mo_at.1.cls m_Mo_at.1 m_Mo_at.1 ∈ am_tbl := am_in6 47 (by decide +kernel) (by decide +kernel)
theorem mb_Mo_isCell : Cond.code m_Mo_isCell.1 m_Mo_isCell.2.1 m_Mo_isCell.2.2.1 m_Mo_isCell.2.2.2.1 ∈ am_tbl := am_in6 52 (by decide +kernel) (by decide +kernel)
theorem mz_Mo_isCell : plainFor m_Mo_isCell.1 = true ∧ (m_Mo_isCell.1.cls ≠ "java/lang/invoke/MethodHandle" ∧ m_Mo_isCell.1.cls ≠ "java/lang/invoke/VarHandle" ∧ (parseMethodDescriptor m_Mo_isCell.1.desc).map (fun d => d.parameters.length) = some 1) := by decide +kernel
theorem mi_Mo_isCell : Cond.instanceMethod m_Mo_isCell.1 ∈ am_tbl := am_in6 51 (by decide +kernel) (by decide +kernel)
theorem se_Mo_isCell : Cond.selects m_Mo_isCell.1.cls m_Mo_isCell.1 m_Mo_isCell.1 ∈ am_tbl := am_inS (q := (⟨"ShakePicturesModel", "isCell", "(I)Z"⟩, 51)) 33 (by decide +kernel)
theorem mb_Mo_time : Cond.code m_Mo_time.1 m_Mo_time.2.1 m_Mo_time.2.2.1 m_Mo_time.2.2.2.1 ∈ am_tbl := am_in6 56 (by decide +kernel) (by decide +kernel)
theorem mz_Mo_time : plainFor m_Mo_time.1 = true ∧ (m_Mo_time.1.cls ≠ "java/lang/invoke/MethodHandle" ∧ m_Mo_time.1.cls ≠ "java/lang/invoke/VarHandle" ∧ (parseMethodDescriptor m_Mo_time.1.desc).map (fun d => d.parameters.length) = some 3) := by decide +kernel
theorem mi_Mo_time : Cond.instanceMethod m_Mo_time.1 ∈ am_tbl := am_in6 54 (by decide +kernel) (by decide +kernel)
theorem se_Mo_time : Cond.selects m_Mo_time.1.cls m_Mo_time.1 m_Mo_time.1 ∈ am_tbl := am_in6 55 (by decide +kernel) (by decide +kernel)
theorem mb_Mo_isKind : Cond.code m_Mo_isKind.1 m_Mo_isKind.2.1 m_Mo_isKind.2.2.1 m_Mo_isKind.2.2.2.1 ∈ am_tbl := am_in6 59 (by decide +kernel) (by decide +kernel)
theorem mz_Mo_isKind : plainFor m_Mo_isKind.1 = true ∧ (m_Mo_isKind.1.cls ≠ "java/lang/invoke/MethodHandle" ∧ m_Mo_isKind.1.cls ≠ "java/lang/invoke/VarHandle" ∧ (parseMethodDescriptor m_Mo_isKind.1.desc).map (fun d => d.parameters.length) = some 1) := by decide +kernel
theorem ms_Mo_isKind : Cond.static m_Mo_isKind.1 ∈ am_tbl := am_in6 58 (by decide +kernel) (by decide +kernel)
theorem mb_Mo_findTimes : Cond.code m_Mo_findTimes.1 m_Mo_findTimes.2.1 m_Mo_findTimes.2.2.1 m_Mo_findTimes.2.2.2.1 ∈ am_tbl := am_in6 63 (by decide +kernel) (by decide +kernel)
theorem mz_Mo_findTimes : plainFor m_Mo_findTimes.1 = true ∧ (m_Mo_findTimes.1.cls ≠ "java/lang/invoke/MethodHandle" ∧ m_Mo_findTimes.1.cls ≠ "java/lang/invoke/VarHandle" ∧ (parseMethodDescriptor m_Mo_findTimes.1.desc).map (fun d => d.parameters.length) = some 2) := by decide +kernel
theorem mi_Mo_findTimes : Cond.instanceMethod m_Mo_findTimes.1 ∈ am_tbl := am_in6 62 (by decide +kernel) (by decide +kernel)
theorem se_Mo_findTimes : Cond.selects m_Mo_findTimes.1.cls m_Mo_findTimes.1 m_Mo_findTimes.1 ∈ am_tbl := am_inS (q := (⟨"ShakePicturesModel", "findTimes", "(II)V"⟩, 51)) 34 (by decide +kernel)
theorem mb_Mo_slowAt : Cond.code m_Mo_slowAt.1 m_Mo_slowAt.2.1 m_Mo_slowAt.2.2.1 m_Mo_slowAt.2.2.2.1 ∈ am_tbl := am_in6 68 (by decide +kernel) (by decide +kernel)
theorem mz_Mo_slowAt : plainFor m_Mo_slowAt.1 = true ∧ (m_Mo_slowAt.1.cls ≠ "java/lang/invoke/MethodHandle" ∧ m_Mo_slowAt.1.cls ≠ "java/lang/invoke/VarHandle" ∧ (parseMethodDescriptor m_Mo_slowAt.1.desc).map (fun d => d.parameters.length) = some 2) := by decide +kernel
theorem mi_Mo_slowAt : Cond.instanceMethod m_Mo_slowAt.1 ∈ am_tbl := am_in6 67 (by decide +kernel) (by decide +kernel)
theorem se_Mo_slowAt : Cond.selects m_Mo_slowAt.1.cls m_Mo_slowAt.1 m_Mo_slowAt.1 ∈ am_tbl := am_inS (q := (⟨"ShakePicturesModel", "slowAt", "(II)I"⟩, 51)) 35 (by decide +kernel)
theorem mb_Mo_way : Cond.code m_Mo_way.1 m_Mo_way.2.1 m_Mo_way.2.2.1 m_Mo_way.2.2.2.1 ∈ am_tbl := am_in6 72 (by decide +kernel) (by decide +kernel)
theorem mz_Mo_way : plainFor m_Mo_way.1 = true ∧ (m_Mo_way.1.cls ≠ "java/lang/invoke/MethodHandle" ∧ m_Mo_way.1.cls ≠ "java/lang/invoke/VarHandle" ∧ (parseMethodDescriptor m_Mo_way.1.desc).map (fun d => d.parameters.length) = some 4) := by decide +kernel
theorem mi_Mo_way : Cond.instanceMethod m_Mo_way.1 ∈ am_tbl := am_in6 70 (by decide +kernel) (by decide +kernel)
theorem se_Mo_way : Cond.selects m_Mo_way.1.cls m_Mo_way.1 m_Mo_way.1 ∈ am_tbl := am_in6 71 (by decide +kernel) (by decide +kernel)
theorem mb_Mo_nextOf : Cond.code m_Mo_nextOf.1 m_Mo_nextOf.2.1 m_Mo_nextOf.2.2.1 m_Mo_nextOf.2.2.2.1 ∈ am_tbl := am_in6 76 (by decide +kernel) (by decide +kernel)
theorem mz_Mo_nextOf : plainFor m_Mo_nextOf.1 = true ∧ (m_Mo_nextOf.1.cls ≠ "java/lang/invoke/MethodHandle" ∧ m_Mo_nextOf.1.cls ≠ "java/lang/invoke/VarHandle" ∧ (parseMethodDescriptor m_Mo_nextOf.1.desc).map (fun d => d.parameters.length) = some 2) := by decide +kernel
theorem mi_Mo_nextOf : Cond.instanceMethod m_Mo_nextOf.1 ∈ am_tbl := am_in6 75 (by decide +kernel) (by decide +kernel)
theorem se_Mo_nextOf : Cond.selects m_Mo_nextOf.1.cls m_Mo_nextOf.1 m_Mo_nextOf.1 ∈ am_tbl := am_inS (q := (⟨"ShakePicturesModel", "nextOf", "(II)I"⟩, 51)) 36 (by decide +kernel)
theorem mb_Mo_areBeside : Cond.code m_Mo_areBeside.1 m_Mo_areBeside.2.1 m_Mo_areBeside.2.2.1 m_Mo_areBeside.2.2.2.1 ∈ am_tbl := am_in6 80 (by decide +kernel) (by decide +kernel)
theorem mz_Mo_areBeside : plainFor m_Mo_areBeside.1 = true ∧ (m_Mo_areBeside.1.cls ≠ "java/lang/invoke/MethodHandle" ∧ m_Mo_areBeside.1.cls ≠ "java/lang/invoke/VarHandle" ∧ (parseMethodDescriptor m_Mo_areBeside.1.desc).map (fun d => d.parameters.length) = some 2) := by decide +kernel
theorem mi_Mo_areBeside : Cond.instanceMethod m_Mo_areBeside.1 ∈ am_tbl := am_in6 79 (by decide +kernel) (by decide +kernel)
theorem se_Mo_areBeside : Cond.selects m_Mo_areBeside.1.cls m_Mo_areBeside.1 m_Mo_areBeside.1 ∈ am_tbl := am_inS (q := (⟨"ShakePicturesModel", "areBeside", "(II)Z"⟩, 51)) 37 (by decide +kernel)
theorem mb_Mo_ear : Cond.code m_Mo_ear.1 m_Mo_ear.2.1 m_Mo_ear.2.2.1 m_Mo_ear.2.2.2.1 ∈ am_tbl := am_in6 84 (by decide +kernel) (by decide +kernel)
theorem mz_Mo_ear : plainFor m_Mo_ear.1 = true ∧ (m_Mo_ear.1.cls ≠ "java/lang/invoke/MethodHandle" ∧ m_Mo_ear.1.cls ≠ "java/lang/invoke/VarHandle" ∧ (parseMethodDescriptor m_Mo_ear.1.desc).map (fun d => d.parameters.length) = some 1) := by decide +kernel
theorem mi_Mo_ear : Cond.instanceMethod m_Mo_ear.1 ∈ am_tbl := am_in6 82 (by decide +kernel) (by decide +kernel)
theorem se_Mo_ear : Cond.selects m_Mo_ear.1.cls m_Mo_ear.1 m_Mo_ear.1 ∈ am_tbl := am_in6 83 (by decide +kernel) (by decide +kernel)
theorem mb_Mo_clock : Cond.code m_Mo_clock.1 m_Mo_clock.2.1 m_Mo_clock.2.2.1 m_Mo_clock.2.2.2.1 ∈ am_tbl := am_in6 88 (by decide +kernel) (by decide +kernel)
theorem mz_Mo_clock : plainFor m_Mo_clock.1 = true ∧ (m_Mo_clock.1.cls ≠ "java/lang/invoke/MethodHandle" ∧ m_Mo_clock.1.cls ≠ "java/lang/invoke/VarHandle" ∧ (parseMethodDescriptor m_Mo_clock.1.desc).map (fun d => d.parameters.length) = some 2) := by decide +kernel
theorem mi_Mo_clock : Cond.instanceMethod m_Mo_clock.1 ∈ am_tbl := am_in6 86 (by decide +kernel) (by decide +kernel)
theorem se_Mo_clock : Cond.selects m_Mo_clock.1.cls m_Mo_clock.1 m_Mo_clock.1 ∈ am_tbl := am_in6 87 (by decide +kernel) (by decide +kernel)
theorem mb_Mo_isEar : Cond.code m_Mo_isEar.1 m_Mo_isEar.2.1 m_Mo_isEar.2.2.1 m_Mo_isEar.2.2.2.1 ∈ am_tbl := am_in6 92 (by decide +kernel) (by decide +kernel)
theorem mz_Mo_isEar : plainFor m_Mo_isEar.1 = true ∧ (m_Mo_isEar.1.cls ≠ "java/lang/invoke/MethodHandle" ∧ m_Mo_isEar.1.cls ≠ "java/lang/invoke/VarHandle" ∧ (parseMethodDescriptor m_Mo_isEar.1.desc).map (fun d => d.parameters.length) = some 1) := by decide +kernel
theorem mi_Mo_isEar : Cond.instanceMethod m_Mo_isEar.1 ∈ am_tbl := am_in6 91 (by decide +kernel) (by decide +kernel)
theorem se_Mo_isEar : Cond.selects m_Mo_isEar.1.cls m_Mo_isEar.1 m_Mo_isEar.1 ∈ am_tbl := am_inS (q := (⟨"ShakePicturesModel", "isEar", "(I)Z"⟩, 51)) 38 (by decide +kernel)
theorem mb_Mo_shake : Cond.code m_Mo_shake.1 m_Mo_shake.2.1 m_Mo_shake.2.2.1 m_Mo_shake.2.2.2.1 ∈ am_tbl := am_in6 96 (by decide +kernel) (by decide +kernel)
theorem mz_Mo_shake : plainFor m_Mo_shake.1 = true ∧ (m_Mo_shake.1.cls ≠ "java/lang/invoke/MethodHandle" ∧ m_Mo_shake.1.cls ≠ "java/lang/invoke/VarHandle" ∧ (parseMethodDescriptor m_Mo_shake.1.desc).map (fun d => d.parameters.length) = some 2) := by decide +kernel
theorem mi_Mo_shake : Cond.instanceMethod m_Mo_shake.1 ∈ am_tbl := am_in6 94 (by decide +kernel) (by decide +kernel)
theorem se_Mo_shake : Cond.selects m_Mo_shake.1.cls m_Mo_shake.1 m_Mo_shake.1 ∈ am_tbl := am_in6 95 (by decide +kernel) (by decide +kernel)
theorem mb_Mo_put : Cond.code m_Mo_put.1 m_Mo_put.2.1 m_Mo_put.2.2.1 m_Mo_put.2.2.2.1 ∈ am_tbl := am_in6 100 (by decide +kernel) (by decide +kernel)
theorem mz_Mo_put : plainFor m_Mo_put.1 = true ∧ (m_Mo_put.1.cls ≠ "java/lang/invoke/MethodHandle" ∧ m_Mo_put.1.cls ≠ "java/lang/invoke/VarHandle" ∧ (parseMethodDescriptor m_Mo_put.1.desc).map (fun d => d.parameters.length) = some 3) := by decide +kernel
theorem mi_Mo_put : Cond.instanceMethod m_Mo_put.1 ∈ am_tbl := am_in6 98 (by decide +kernel) (by decide +kernel)
theorem se_Mo_put : Cond.selects m_Mo_put.1.cls m_Mo_put.1 m_Mo_put.1 ∈ am_tbl := am_in6 99 (by decide +kernel) (by decide +kernel)
theorem mb_Mo_isShake : Cond.code m_Mo_isShake.1 m_Mo_isShake.2.1 m_Mo_isShake.2.2.1 m_Mo_isShake.2.2.2.1 ∈ am_tbl := am_in6 104 (by decide +kernel) (by decide +kernel)
theorem mz_Mo_isShake : plainFor m_Mo_isShake.1 = true ∧ (m_Mo_isShake.1.cls ≠ "java/lang/invoke/MethodHandle" ∧ m_Mo_isShake.1.cls ≠ "java/lang/invoke/VarHandle" ∧ (parseMethodDescriptor m_Mo_isShake.1.desc).map (fun d => d.parameters.length) = some 1) := by decide +kernel
theorem mi_Mo_isShake : Cond.instanceMethod m_Mo_isShake.1 ∈ am_tbl := am_in6 103 (by decide +kernel) (by decide +kernel)
theorem se_Mo_isShake : Cond.selects m_Mo_isShake.1.cls m_Mo_isShake.1 m_Mo_isShake.1 ∈ am_tbl := am_inS (q := (⟨"ShakePicturesModel", "isShake", "(I)Z"⟩, 51)) 39 (by decide +kernel)
theorem mb_Mo_pick : Cond.code m_Mo_pick.1 m_Mo_pick.2.1 m_Mo_pick.2.2.1 m_Mo_pick.2.2.2.1 ∈ am_tbl := am_in6 108 (by decide +kernel) (by decide +kernel)
theorem mz_Mo_pick : plainFor m_Mo_pick.1 = true ∧ (m_Mo_pick.1.cls ≠ "java/lang/invoke/MethodHandle" ∧ m_Mo_pick.1.cls ≠ "java/lang/invoke/VarHandle" ∧ (parseMethodDescriptor m_Mo_pick.1.desc).map (fun d => d.parameters.length) = some 5) := by decide +kernel
theorem mi_Mo_pick : Cond.instanceMethod m_Mo_pick.1 ∈ am_tbl := am_in6 106 (by decide +kernel) (by decide +kernel)
theorem se_Mo_pick : Cond.selects m_Mo_pick.1.cls m_Mo_pick.1 m_Mo_pick.1 ∈ am_tbl := am_in6 107 (by decide +kernel) (by decide +kernel)
theorem mb_Mo_isSpan : Cond.code m_Mo_isSpan.1 m_Mo_isSpan.2.1 m_Mo_isSpan.2.2.1 m_Mo_isSpan.2.2.2.1 ∈ am_tbl := am_in6 111 (by decide +kernel) (by decide +kernel)
theorem mz_Mo_isSpan : plainFor m_Mo_isSpan.1 = true ∧ (m_Mo_isSpan.1.cls ≠ "java/lang/invoke/MethodHandle" ∧ m_Mo_isSpan.1.cls ≠ "java/lang/invoke/VarHandle" ∧ (parseMethodDescriptor m_Mo_isSpan.1.desc).map (fun d => d.parameters.length) = some 2) := by decide +kernel
theorem ms_Mo_isSpan : Cond.static m_Mo_isSpan.1 ∈ am_tbl := am_in6 110 (by decide +kernel) (by decide +kernel)
theorem mb_Mo_addTelling : Cond.code m_Mo_addTelling.1 m_Mo_addTelling.2.1 m_Mo_addTelling.2.2.1 m_Mo_addTelling.2.2.2.1 ∈ am_tbl := am_in6 115 (by decide +kernel) (by decide +kernel)
theorem mz_Mo_addTelling : plainFor m_Mo_addTelling.1 = true ∧ (m_Mo_addTelling.1.cls ≠ "java/lang/invoke/MethodHandle" ∧ m_Mo_addTelling.1.cls ≠ "java/lang/invoke/VarHandle" ∧ (parseMethodDescriptor m_Mo_addTelling.1.desc).map (fun d => d.parameters.length) = some 3) := by decide +kernel
theorem mi_Mo_addTelling : Cond.instanceMethod m_Mo_addTelling.1 ∈ am_tbl := am_in6 114 (by decide +kernel) (by decide +kernel)
theorem se_Mo_addTelling : Cond.selects m_Mo_addTelling.1.cls m_Mo_addTelling.1 m_Mo_addTelling.1 ∈ am_tbl := am_inS (q := (⟨"ShakePicturesModel", "addTelling", "(III)V"⟩, 51)) 40 (by decide +kernel)
theorem mb_Mo_tell : Cond.code m_Mo_tell.1 m_Mo_tell.2.1 m_Mo_tell.2.2.1 m_Mo_tell.2.2.2.1 ∈ am_tbl := am_in6 119 (by decide +kernel) (by decide +kernel)
theorem mz_Mo_tell : plainFor m_Mo_tell.1 = true ∧ (m_Mo_tell.1.cls ≠ "java/lang/invoke/MethodHandle" ∧ m_Mo_tell.1.cls ≠ "java/lang/invoke/VarHandle" ∧ (parseMethodDescriptor m_Mo_tell.1.desc).map (fun d => d.parameters.length) = some 3) := by decide +kernel
theorem mi_Mo_tell : Cond.instanceMethod m_Mo_tell.1 ∈ am_tbl := am_in6 117 (by decide +kernel) (by decide +kernel)
theorem se_Mo_tell : Cond.selects m_Mo_tell.1.cls m_Mo_tell.1 m_Mo_tell.1 ∈ am_tbl := am_in6 118 (by decide +kernel) (by decide +kernel)
theorem mb_Mo_isPick : Cond.code m_Mo_isPick.1 m_Mo_isPick.2.1 m_Mo_isPick.2.2.1 m_Mo_isPick.2.2.2.1 ∈ am_tbl := am_in6 123 (by decide +kernel) (by decide +kernel)
theorem mz_Mo_isPick : plainFor m_Mo_isPick.1 = true ∧ (m_Mo_isPick.1.cls ≠ "java/lang/invoke/MethodHandle" ∧ m_Mo_isPick.1.cls ≠ "java/lang/invoke/VarHandle" ∧ (parseMethodDescriptor m_Mo_isPick.1.desc).map (fun d => d.parameters.length) = some 1) := by decide +kernel
theorem mi_Mo_isPick : Cond.instanceMethod m_Mo_isPick.1 ∈ am_tbl := am_in6 122 (by decide +kernel) (by decide +kernel)
theorem se_Mo_isPick : Cond.selects m_Mo_isPick.1.cls m_Mo_isPick.1 m_Mo_isPick.1 ∈ am_tbl := am_inS (q := (⟨"ShakePicturesModel", "isPick", "(I)Z"⟩, 51)) 41 (by decide +kernel)
theorem mb_Mo_days : Cond.code m_Mo_days.1 m_Mo_days.2.1 m_Mo_days.2.2.1 m_Mo_days.2.2.2.1 ∈ am_tbl := am_in6 127 (by decide +kernel) (by decide +kernel)
theorem mz_Mo_days : plainFor m_Mo_days.1 = true ∧ (m_Mo_days.1.cls ≠ "java/lang/invoke/MethodHandle" ∧ m_Mo_days.1.cls ≠ "java/lang/invoke/VarHandle" ∧ (parseMethodDescriptor m_Mo_days.1.desc).map (fun d => d.parameters.length) = some 1) := by decide +kernel
theorem mi_Mo_days : Cond.instanceMethod m_Mo_days.1 ∈ am_tbl := am_in6 125 (by decide +kernel) (by decide +kernel)
theorem se_Mo_days : Cond.selects m_Mo_days.1.cls m_Mo_days.1 m_Mo_days.1 ∈ am_tbl := am_in6 126 (by decide +kernel) (by decide +kernel)
theorem mb_Mo_of : Cond.code m_Mo_of.1 m_Mo_of.2.1 m_Mo_of.2.2.1 m_Mo_of.2.2.2.1 ∈ am_tbl := am_in6 131 (by decide +kernel) (by decide +kernel)
theorem mz_Mo_of : plainFor m_Mo_of.1 = true ∧ (m_Mo_of.1.cls ≠ "java/lang/invoke/MethodHandle" ∧ m_Mo_of.1.cls ≠ "java/lang/invoke/VarHandle" ∧ (parseMethodDescriptor m_Mo_of.1.desc).map (fun d => d.parameters.length) = some 2) := by decide +kernel
theorem mi_Mo_of : Cond.instanceMethod m_Mo_of.1 ∈ am_tbl := am_in6 129 (by decide +kernel) (by decide +kernel)
theorem se_Mo_of : Cond.selects m_Mo_of.1.cls m_Mo_of.1 m_Mo_of.1 ∈ am_tbl := am_in6 130 (by decide +kernel) (by decide +kernel)
theorem mb_Mo_findSpans : Cond.code m_Mo_findSpans.1 m_Mo_findSpans.2.1 m_Mo_findSpans.2.2.1 m_Mo_findSpans.2.2.2.1 ∈ am_tbl := am_in6 135 (by decide +kernel) (by decide +kernel)
theorem mz_Mo_findSpans : plainFor m_Mo_findSpans.1 = true ∧ (m_Mo_findSpans.1.cls ≠ "java/lang/invoke/MethodHandle" ∧ m_Mo_findSpans.1.cls ≠ "java/lang/invoke/VarHandle" ∧ (parseMethodDescriptor m_Mo_findSpans.1.desc).map (fun d => d.parameters.length) = some 1) := by decide +kernel
theorem mi_Mo_findSpans : Cond.instanceMethod m_Mo_findSpans.1 ∈ am_tbl := am_in6 134 (by decide +kernel) (by decide +kernel)
theorem se_Mo_findSpans : Cond.selects m_Mo_findSpans.1.cls m_Mo_findSpans.1 m_Mo_findSpans.1 ∈ am_tbl := am_inS (q := (⟨"ShakePicturesModel", "findSpans", "(I)V"⟩, 51)) 42 (by decide +kernel)
theorem mb_Mo_findShakeTimes : Cond.code m_Mo_findShakeTimes.1 m_Mo_findShakeTimes.2.1 m_Mo_findShakeTimes.2.2.1 m_Mo_findShakeTimes.2.2.2.1 ∈ am_tbl := am_in6 139 (by decide +kernel) (by decide +kernel)
theorem mz_Mo_findShakeTimes : plainFor m_Mo_findShakeTimes.1 = true ∧ (m_Mo_findShakeTimes.1.cls ≠ "java/lang/invoke/MethodHandle" ∧ m_Mo_findShakeTimes.1.cls ≠ "java/lang/invoke/VarHandle" ∧ (parseMethodDescriptor m_Mo_findShakeTimes.1.desc).map (fun d => d.parameters.length) = some 0) := by decide +kernel
theorem mi_Mo_findShakeTimes : Cond.instanceMethod m_Mo_findShakeTimes.1 ∈ am_tbl := am_in6 138 (by decide +kernel) (by decide +kernel)
theorem se_Mo_findShakeTimes : Cond.selects m_Mo_findShakeTimes.1.cls m_Mo_findShakeTimes.1 m_Mo_findShakeTimes.1 ∈ am_tbl := am_inS (q := (⟨"ShakePicturesModel", "findShakeTimes", "()V"⟩, 51)) 43 (by decide +kernel)
theorem mb_Mo_foretold : Cond.code m_Mo_foretold.1 m_Mo_foretold.2.1 m_Mo_foretold.2.2.1 m_Mo_foretold.2.2.2.1 ∈ am_tbl := am_in6 143 (by decide +kernel) (by decide +kernel)
theorem mz_Mo_foretold : plainFor m_Mo_foretold.1 = true ∧ (m_Mo_foretold.1.cls ≠ "java/lang/invoke/MethodHandle" ∧ m_Mo_foretold.1.cls ≠ "java/lang/invoke/VarHandle" ∧ (parseMethodDescriptor m_Mo_foretold.1.desc).map (fun d => d.parameters.length) = some 1) := by decide +kernel
theorem mi_Mo_foretold : Cond.instanceMethod m_Mo_foretold.1 ∈ am_tbl := am_in6 142 (by decide +kernel) (by decide +kernel)
theorem se_Mo_foretold : Cond.selects m_Mo_foretold.1.cls m_Mo_foretold.1 m_Mo_foretold.1 ∈ am_tbl := am_inS (q := (⟨"ShakePicturesModel", "foretold", "(I)I"⟩, 51)) 44 (by decide +kernel)
theorem mb_Mo_offOf : Cond.code m_Mo_offOf.1 m_Mo_offOf.2.1 m_Mo_offOf.2.2.1 m_Mo_offOf.2.2.2.1 ∈ am_tbl := am_in6 147 (by decide +kernel) (by decide +kernel)
theorem mz_Mo_offOf : plainFor m_Mo_offOf.1 = true ∧ (m_Mo_offOf.1.cls ≠ "java/lang/invoke/MethodHandle" ∧ m_Mo_offOf.1.cls ≠ "java/lang/invoke/VarHandle" ∧ (parseMethodDescriptor m_Mo_offOf.1.desc).map (fun d => d.parameters.length) = some 2) := by decide +kernel
theorem mi_Mo_offOf : Cond.instanceMethod m_Mo_offOf.1 ∈ am_tbl := am_in6 146 (by decide +kernel) (by decide +kernel)
theorem se_Mo_offOf : Cond.selects m_Mo_offOf.1.cls m_Mo_offOf.1 m_Mo_offOf.1 ∈ am_tbl := am_inS (q := (⟨"ShakePicturesModel", "offOf", "(II)I"⟩, 51)) 45 (by decide +kernel)
theorem mb_Mo_misfit : Cond.code m_Mo_misfit.1 m_Mo_misfit.2.1 m_Mo_misfit.2.2.1 m_Mo_misfit.2.2.2.1 ∈ am_tbl := am_in6 151 (by decide +kernel) (by decide +kernel)
theorem mz_Mo_misfit : plainFor m_Mo_misfit.1 = true ∧ (m_Mo_misfit.1.cls ≠ "java/lang/invoke/MethodHandle" ∧ m_Mo_misfit.1.cls ≠ "java/lang/invoke/VarHandle" ∧ (parseMethodDescriptor m_Mo_misfit.1.desc).map (fun d => d.parameters.length) = some 2) := by decide +kernel
theorem mi_Mo_misfit : Cond.instanceMethod m_Mo_misfit.1 ∈ am_tbl := am_in6 149 (by decide +kernel) (by decide +kernel)
theorem se_Mo_misfit : Cond.selects m_Mo_misfit.1.cls m_Mo_misfit.1 m_Mo_misfit.1 ∈ am_tbl := am_in6 150 (by decide +kernel) (by decide +kernel)
theorem mb_Mo_misfitNow : Cond.code m_Mo_misfitNow.1 m_Mo_misfitNow.2.1 m_Mo_misfitNow.2.2.1 m_Mo_misfitNow.2.2.2.1 ∈ am_tbl := am_in6 155 (by decide +kernel) (by decide +kernel)
theorem mz_Mo_misfitNow : plainFor m_Mo_misfitNow.1 = true ∧ (m_Mo_misfitNow.1.cls ≠ "java/lang/invoke/MethodHandle" ∧ m_Mo_misfitNow.1.cls ≠ "java/lang/invoke/VarHandle" ∧ (parseMethodDescriptor m_Mo_misfitNow.1.desc).map (fun d => d.parameters.length) = some 0) := by decide +kernel
theorem mi_Mo_misfitNow : Cond.instanceMethod m_Mo_misfitNow.1 ∈ am_tbl := am_in6 154 (by decide +kernel) (by decide +kernel)
theorem se_Mo_misfitNow : Cond.selects m_Mo_misfitNow.1.cls m_Mo_misfitNow.1 m_Mo_misfitNow.1 ∈ am_tbl := am_inS (q := (⟨"ShakePicturesModel", "misfitNow", "()I"⟩, 51)) 46 (by decide +kernel)
theorem mb_Mo_fit : Cond.code m_Mo_fit.1 m_Mo_fit.2.1 m_Mo_fit.2.2.1 m_Mo_fit.2.2.2.1 ∈ am_tbl := am_in6 159 (by decide +kernel) (by decide +kernel)
theorem mz_Mo_fit : plainFor m_Mo_fit.1 = true ∧ (m_Mo_fit.1.cls ≠ "java/lang/invoke/MethodHandle" ∧ m_Mo_fit.1.cls ≠ "java/lang/invoke/VarHandle" ∧ (parseMethodDescriptor m_Mo_fit.1.desc).map (fun d => d.parameters.length) = some 1) := by decide +kernel
theorem mi_Mo_fit : Cond.instanceMethod m_Mo_fit.1 ∈ am_tbl := am_in6 157 (by decide +kernel) (by decide +kernel)
theorem se_Mo_fit : Cond.selects m_Mo_fit.1.cls m_Mo_fit.1 m_Mo_fit.1 ∈ am_tbl := am_in6 158 (by decide +kernel) (by decide +kernel)
theorem mb_Mo_fitAll : Cond.code m_Mo_fitAll.1 m_Mo_fitAll.2.1 m_Mo_fitAll.2.2.1 m_Mo_fitAll.2.2.2.1 ∈ am_tbl := am_in6 163 (by decide +kernel) (by decide +kernel)
theorem mz_Mo_fitAll : plainFor m_Mo_fitAll.1 = true ∧ (m_Mo_fitAll.1.cls ≠ "java/lang/invoke/MethodHandle" ∧ m_Mo_fitAll.1.cls ≠ "java/lang/invoke/VarHandle" ∧ (parseMethodDescriptor m_Mo_fitAll.1.desc).map (fun d => d.parameters.length) = some 1) := by decide +kernel
theorem mi_Mo_fitAll : Cond.instanceMethod m_Mo_fitAll.1 ∈ am_tbl := am_in6 162 (by decide +kernel) (by decide +kernel)
theorem se_Mo_fitAll : Cond.selects m_Mo_fitAll.1.cls m_Mo_fitAll.1 m_Mo_fitAll.1 ∈ am_tbl := am_inS (q := (⟨"ShakePicturesModel", "fitAll", "(I)V"⟩, 51)) 47 (by decide +kernel)
theorem mb_Mo_fitBlock : Cond.code m_Mo_fitBlock.1 m_Mo_fitBlock.2.1 m_Mo_fitBlock.2.2.1 m_Mo_fitBlock.2.2.2.1 ∈ am_tbl := am_in6 167 (by decide +kernel) (by decide +kernel)
theorem mz_Mo_fitBlock : plainFor m_Mo_fitBlock.1 = true ∧ (m_Mo_fitBlock.1.cls ≠ "java/lang/invoke/MethodHandle" ∧ m_Mo_fitBlock.1.cls ≠ "java/lang/invoke/VarHandle" ∧ (parseMethodDescriptor m_Mo_fitBlock.1.desc).map (fun d => d.parameters.length) = some 1) := by decide +kernel
theorem mi_Mo_fitBlock : Cond.instanceMethod m_Mo_fitBlock.1 ∈ am_tbl := am_in6 166 (by decide +kernel) (by decide +kernel)
theorem se_Mo_fitBlock : Cond.selects m_Mo_fitBlock.1.cls m_Mo_fitBlock.1 m_Mo_fitBlock.1 ∈ am_tbl := am_inS (q := (⟨"ShakePicturesModel", "fitBlock", "(I)Z"⟩, 51)) 48 (by decide +kernel)
theorem mb_Mo_span : Cond.code m_Mo_span.1 m_Mo_span.2.1 m_Mo_span.2.2.1 m_Mo_span.2.2.2.1 ∈ am_tbl := am_in6 171 (by decide +kernel) (by decide +kernel)
theorem mz_Mo_span : plainFor m_Mo_span.1 = true ∧ (m_Mo_span.1.cls ≠ "java/lang/invoke/MethodHandle" ∧ m_Mo_span.1.cls ≠ "java/lang/invoke/VarHandle" ∧ (parseMethodDescriptor m_Mo_span.1.desc).map (fun d => d.parameters.length) = some 2) := by decide +kernel
theorem mi_Mo_span : Cond.instanceMethod m_Mo_span.1 ∈ am_tbl := am_in6 169 (by decide +kernel) (by decide +kernel)
theorem se_Mo_span : Cond.selects m_Mo_span.1.cls m_Mo_span.1 m_Mo_span.1 ∈ am_tbl := am_in6 170 (by decide +kernel) (by decide +kernel)
theorem mb_Mo_findRays : Cond.code m_Mo_findRays.1 m_Mo_findRays.2.1 m_Mo_findRays.2.2.1 m_Mo_findRays.2.2.2.1 ∈ am_tbl := am_in6 175 (by decide +kernel) (by decide +kernel)
theorem mz_Mo_findRays : plainFor m_Mo_findRays.1 = true ∧ (m_Mo_findRays.1.cls ≠ "java/lang/invoke/MethodHandle" ∧ m_Mo_findRays.1.cls ≠ "java/lang/invoke/VarHandle" ∧ (parseMethodDescriptor m_Mo_findRays.1.desc).map (fun d => d.parameters.length) = some 0) := by decide +kernel
theorem mi_Mo_findRays : Cond.instanceMethod m_Mo_findRays.1 ∈ am_tbl := am_in6 174 (by decide +kernel) (by decide +kernel)
theorem se_Mo_findRays : Cond.selects m_Mo_findRays.1.cls m_Mo_findRays.1 m_Mo_findRays.1 ∈ am_tbl := am_inS (q := (⟨"ShakePicturesModel", "findRays", "()V"⟩, 51)) 49 (by decide +kernel)
theorem mb_Mo_layRays : Cond.code m_Mo_layRays.1 m_Mo_layRays.2.1 m_Mo_layRays.2.2.1 m_Mo_layRays.2.2.2.1 ∈ am_tbl := am_in6 179 (by decide +kernel) (by decide +kernel)
theorem mz_Mo_layRays : plainFor m_Mo_layRays.1 = true ∧ (m_Mo_layRays.1.cls ≠ "java/lang/invoke/MethodHandle" ∧ m_Mo_layRays.1.cls ≠ "java/lang/invoke/VarHandle" ∧ (parseMethodDescriptor m_Mo_layRays.1.desc).map (fun d => d.parameters.length) = some 3) := by decide +kernel
theorem mi_Mo_layRays : Cond.instanceMethod m_Mo_layRays.1 ∈ am_tbl := am_in6 178 (by decide +kernel) (by decide +kernel)
theorem se_Mo_layRays : Cond.selects m_Mo_layRays.1.cls m_Mo_layRays.1 m_Mo_layRays.1 ∈ am_tbl := am_inS (q := (⟨"ShakePicturesModel", "layRays", "(III)V"⟩, 51)) 50 (by decide +kernel)
theorem mb_Mo_press : Cond.code m_Mo_press.1 m_Mo_press.2.1 m_Mo_press.2.2.1 m_Mo_press.2.2.2.1 ∈ am_tbl := am_in6 183 (by decide +kernel) (by decide +kernel)
theorem mz_Mo_press : plainFor m_Mo_press.1 = true ∧ (m_Mo_press.1.cls ≠ "java/lang/invoke/MethodHandle" ∧ m_Mo_press.1.cls ≠ "java/lang/invoke/VarHandle" ∧ (parseMethodDescriptor m_Mo_press.1.desc).map (fun d => d.parameters.length) = some 1) := by decide +kernel
theorem mi_Mo_press : Cond.instanceMethod m_Mo_press.1 ∈ am_tbl := am_in6 182 (by decide +kernel) (by decide +kernel)
theorem se_Mo_press : Cond.selects m_Mo_press.1.cls m_Mo_press.1 m_Mo_press.1 ∈ am_tbl := am_inS (q := (⟨"ShakePicturesModel", "press", "(I)Z"⟩, 51)) 51 (by decide +kernel)
theorem mb_Mo_others : Cond.code m_Mo_others.1 m_Mo_others.2.1 m_Mo_others.2.2.1 m_Mo_others.2.2.2.1 ∈ am_tbl := am_in6 187 (by decide +kernel) (by decide +kernel)
theorem mz_Mo_others : plainFor m_Mo_others.1 = true ∧ (m_Mo_others.1.cls ≠ "java/lang/invoke/MethodHandle" ∧ m_Mo_others.1.cls ≠ "java/lang/invoke/VarHandle" ∧ (parseMethodDescriptor m_Mo_others.1.desc).map (fun d => d.parameters.length) = some 3) := by decide +kernel
theorem mi_Mo_others : Cond.instanceMethod m_Mo_others.1 ∈ am_tbl := am_in6 186 (by decide +kernel) (by decide +kernel)
theorem se_Mo_others : Cond.selects m_Mo_others.1.cls m_Mo_others.1 m_Mo_others.1 ∈ am_tbl := am_inS (q := (⟨"ShakePicturesModel", "others", "(IIZ)I"⟩, 51)) 52 (by decide +kernel)
theorem mb_Mo_floorOf : Cond.code m_Mo_floorOf.1 m_Mo_floorOf.2.1 m_Mo_floorOf.2.2.1 m_Mo_floorOf.2.2.2.1 ∈ am_tbl := am_in6 190 (by decide +kernel) (by decide +kernel)
theorem mz_Mo_floorOf : plainFor m_Mo_floorOf.1 = true ∧ (m_Mo_floorOf.1.cls ≠ "java/lang/invoke/MethodHandle" ∧ m_Mo_floorOf.1.cls ≠ "java/lang/invoke/VarHandle" ∧ (parseMethodDescriptor m_Mo_floorOf.1.desc).map (fun d => d.parameters.length) = some 2) := by decide +kernel
theorem ms_Mo_floorOf : Cond.static m_Mo_floorOf.1 ∈ am_tbl := am_in6 189 (by decide +kernel) (by decide +kernel)
theorem mb_Mo_quarrel : Cond.code m_Mo_quarrel.1 m_Mo_quarrel.2.1 m_Mo_quarrel.2.2.1 m_Mo_quarrel.2.2.2.1 ∈ am_tbl := am_in6 194 (by decide +kernel) (by decide +kernel)
theorem mz_Mo_quarrel : plainFor m_Mo_quarrel.1 = true ∧ (m_Mo_quarrel.1.cls ≠ "java/lang/invoke/MethodHandle" ∧ m_Mo_quarrel.1.cls ≠ "java/lang/invoke/VarHandle" ∧ (parseMethodDescriptor m_Mo_quarrel.1.desc).map (fun d => d.parameters.length) = some 0) := by decide +kernel
theorem mi_Mo_quarrel : Cond.instanceMethod m_Mo_quarrel.1 ∈ am_tbl := am_in6 192 (by decide +kernel) (by decide +kernel)
theorem se_Mo_quarrel : Cond.selects m_Mo_quarrel.1.cls m_Mo_quarrel.1 m_Mo_quarrel.1 ∈ am_tbl := am_in6 193 (by decide +kernel) (by decide +kernel)
theorem mb_Mo_bits : Cond.code m_Mo_bits.1 m_Mo_bits.2.1 m_Mo_bits.2.2.1 m_Mo_bits.2.2.2.1 ∈ am_tbl := am_in6 197 (by decide +kernel) (by decide +kernel)
theorem mz_Mo_bits : plainFor m_Mo_bits.1 = true ∧ (m_Mo_bits.1.cls ≠ "java/lang/invoke/MethodHandle" ∧ m_Mo_bits.1.cls ≠ "java/lang/invoke/VarHandle" ∧ (parseMethodDescriptor m_Mo_bits.1.desc).map (fun d => d.parameters.length) = some 1) := by decide +kernel
theorem ms_Mo_bits : Cond.static m_Mo_bits.1 ∈ am_tbl := am_in6 196 (by decide +kernel) (by decide +kernel)
theorem mb_Mo_rank : Cond.code m_Mo_rank.1 m_Mo_rank.2.1 m_Mo_rank.2.2.1 m_Mo_rank.2.2.2.1 ∈ am_tbl := am_in6 201 (by decide +kernel) (by decide +kernel)
theorem mz_Mo_rank : plainFor m_Mo_rank.1 = true ∧ (m_Mo_rank.1.cls ≠ "java/lang/invoke/MethodHandle" ∧ m_Mo_rank.1.cls ≠ "java/lang/invoke/VarHandle" ∧ (parseMethodDescriptor m_Mo_rank.1.desc).map (fun d => d.parameters.length) = some 0) := by decide +kernel
theorem mi_Mo_rank : Cond.instanceMethod m_Mo_rank.1 ∈ am_tbl := am_in6 199 (by decide +kernel) (by decide +kernel)
theorem se_Mo_rank : Cond.selects m_Mo_rank.1.cls m_Mo_rank.1 m_Mo_rank.1 ∈ am_tbl := am_in6 200 (by decide +kernel) (by decide +kernel)
theorem mb_Mo_layRows : Cond.code m_Mo_layRows.1 m_Mo_layRows.2.1 m_Mo_layRows.2.2.1 m_Mo_layRows.2.2.2.1 ∈ am_tbl := am_in6 205 (by decide +kernel) (by decide +kernel)
theorem mz_Mo_layRows : plainFor m_Mo_layRows.1 = true ∧ (m_Mo_layRows.1.cls ≠ "java/lang/invoke/MethodHandle" ∧ m_Mo_layRows.1.cls ≠ "java/lang/invoke/VarHandle" ∧ (parseMethodDescriptor m_Mo_layRows.1.desc).map (fun d => d.parameters.length) = some 0) := by decide +kernel
theorem mi_Mo_layRows : Cond.instanceMethod m_Mo_layRows.1 ∈ am_tbl := am_in6 204 (by decide +kernel) (by decide +kernel)
theorem se_Mo_layRows : Cond.selects m_Mo_layRows.1.cls m_Mo_layRows.1 m_Mo_layRows.1 ∈ am_tbl := am_inS (q := (⟨"ShakePicturesModel", "layRows", "()I"⟩, 51)) 53 (by decide +kernel)
theorem mb_Mo_rankOf : Cond.code m_Mo_rankOf.1 m_Mo_rankOf.2.1 m_Mo_rankOf.2.2.1 m_Mo_rankOf.2.2.2.1 ∈ am_tbl := am_in6 209 (by decide +kernel) (by decide +kernel)
theorem mz_Mo_rankOf : plainFor m_Mo_rankOf.1 = true ∧ (m_Mo_rankOf.1.cls ≠ "java/lang/invoke/MethodHandle" ∧ m_Mo_rankOf.1.cls ≠ "java/lang/invoke/VarHandle" ∧ (parseMethodDescriptor m_Mo_rankOf.1.desc).map (fun d => d.parameters.length) = some 1) := by decide +kernel
theorem mi_Mo_rankOf : Cond.instanceMethod m_Mo_rankOf.1 ∈ am_tbl := am_in6 208 (by decide +kernel) (by decide +kernel)
theorem se_Mo_rankOf : Cond.selects m_Mo_rankOf.1.cls m_Mo_rankOf.1 m_Mo_rankOf.1 ∈ am_tbl := am_inS (q := (⟨"ShakePicturesModel", "rankOf", "(I)I"⟩, 51)) 54 (by decide +kernel)
theorem mb_Mo_inverse : Cond.code m_Mo_inverse.1 m_Mo_inverse.2.1 m_Mo_inverse.2.2.1 m_Mo_inverse.2.2.2.1 ∈ am_tbl := am_in6 212 (by decide +kernel) (by decide +kernel)
theorem mz_Mo_inverse : plainFor m_Mo_inverse.1 = true ∧ (m_Mo_inverse.1.cls ≠ "java/lang/invoke/MethodHandle" ∧ m_Mo_inverse.1.cls ≠ "java/lang/invoke/VarHandle" ∧ (parseMethodDescriptor m_Mo_inverse.1.desc).map (fun d => d.parameters.length) = some 1) := by decide +kernel
theorem ms_Mo_inverse : Cond.static m_Mo_inverse.1 ∈ am_tbl := am_in6 211 (by decide +kernel) (by decide +kernel)
theorem mb_Mo_resolved : Cond.code m_Mo_resolved.1 m_Mo_resolved.2.1 m_Mo_resolved.2.2.1 m_Mo_resolved.2.2.2.1 ∈ am_tbl := am_in6 219 (by decide +kernel) (by decide +kernel)
theorem mz_Mo_resolved : plainFor m_Mo_resolved.1 = true ∧ (m_Mo_resolved.1.cls ≠ "java/lang/invoke/MethodHandle" ∧ m_Mo_resolved.1.cls ≠ "java/lang/invoke/VarHandle" ∧ (parseMethodDescriptor m_Mo_resolved.1.desc).map (fun d => d.parameters.length) = some 1) := by decide +kernel
theorem mi_Mo_resolved : Cond.instanceMethod m_Mo_resolved.1 ∈ am_tbl := am_in6 217 (by decide +kernel) (by decide +kernel)
theorem se_Mo_resolved : Cond.selects m_Mo_resolved.1.cls m_Mo_resolved.1 m_Mo_resolved.1 ∈ am_tbl := am_in6 218 (by decide +kernel) (by decide +kernel)
theorem mb_Mo_isResolved : Cond.code m_Mo_isResolved.1 m_Mo_isResolved.2.1 m_Mo_isResolved.2.2.1 m_Mo_isResolved.2.2.2.1 ∈ am_tbl := am_in6 223 (by decide +kernel) (by decide +kernel)
theorem mz_Mo_isResolved : plainFor m_Mo_isResolved.1 = true ∧ (m_Mo_isResolved.1.cls ≠ "java/lang/invoke/MethodHandle" ∧ m_Mo_isResolved.1.cls ≠ "java/lang/invoke/VarHandle" ∧ (parseMethodDescriptor m_Mo_isResolved.1.desc).map (fun d => d.parameters.length) = some 1) := by decide +kernel
theorem mi_Mo_isResolved : Cond.instanceMethod m_Mo_isResolved.1 ∈ am_tbl := am_in6 222 (by decide +kernel) (by decide +kernel)
theorem se_Mo_isResolved : Cond.selects m_Mo_isResolved.1.cls m_Mo_isResolved.1 m_Mo_isResolved.1 ∈ am_tbl := am_inS (q := (⟨"ShakePicturesModel", "isResolved", "(I)Z"⟩, 51)) 55 (by decide +kernel)
theorem mb_Mo_layAll : Cond.code m_Mo_layAll.1 m_Mo_layAll.2.1 m_Mo_layAll.2.2.1 m_Mo_layAll.2.2.2.1 ∈ am_tbl := am_in6 227 (by decide +kernel) (by decide +kernel)
theorem mz_Mo_layAll : plainFor m_Mo_layAll.1 = true ∧ (m_Mo_layAll.1.cls ≠ "java/lang/invoke/MethodHandle" ∧ m_Mo_layAll.1.cls ≠ "java/lang/invoke/VarHandle" ∧ (parseMethodDescriptor m_Mo_layAll.1.desc).map (fun d => d.parameters.length) = some 0) := by decide +kernel
theorem mi_Mo_layAll : Cond.instanceMethod m_Mo_layAll.1 ∈ am_tbl := am_in6 226 (by decide +kernel) (by decide +kernel)
theorem se_Mo_layAll : Cond.selects m_Mo_layAll.1.cls m_Mo_layAll.1 m_Mo_layAll.1 ∈ am_tbl := am_inS (q := (⟨"ShakePicturesModel", "layAll", "()I"⟩, 51)) 56 (by decide +kernel)
theorem mb_Mo_best : Cond.code m_Mo_best.1 m_Mo_best.2.1 m_Mo_best.2.2.1 m_Mo_best.2.2.2.1 ∈ am_tbl := am_in6 231 (by decide +kernel) (by decide +kernel)
theorem mz_Mo_best : plainFor m_Mo_best.1 = true ∧ (m_Mo_best.1.cls ≠ "java/lang/invoke/MethodHandle" ∧ m_Mo_best.1.cls ≠ "java/lang/invoke/VarHandle" ∧ (parseMethodDescriptor m_Mo_best.1.desc).map (fun d => d.parameters.length) = some 1) := by decide +kernel
theorem mi_Mo_best : Cond.instanceMethod m_Mo_best.1 ∈ am_tbl := am_in6 229 (by decide +kernel) (by decide +kernel)
theorem se_Mo_best : Cond.selects m_Mo_best.1.cls m_Mo_best.1 m_Mo_best.1 ∈ am_tbl := am_in6 230 (by decide +kernel) (by decide +kernel)
theorem mb_Mo_resolvedWith : Cond.code m_Mo_resolvedWith.1 m_Mo_resolvedWith.2.1 m_Mo_resolvedWith.2.2.1 m_Mo_resolvedWith.2.2.2.1 ∈ am_tbl := am_in6 235 (by decide +kernel) (by decide +kernel)
theorem mz_Mo_resolvedWith : plainFor m_Mo_resolvedWith.1 = true ∧ (m_Mo_resolvedWith.1.cls ≠ "java/lang/invoke/MethodHandle" ∧ m_Mo_resolvedWith.1.cls ≠ "java/lang/invoke/VarHandle" ∧ (parseMethodDescriptor m_Mo_resolvedWith.1.desc).map (fun d => d.parameters.length) = some 1) := by decide +kernel
theorem mi_Mo_resolvedWith : Cond.instanceMethod m_Mo_resolvedWith.1 ∈ am_tbl := am_in6 234 (by decide +kernel) (by decide +kernel)
theorem se_Mo_resolvedWith : Cond.selects m_Mo_resolvedWith.1.cls m_Mo_resolvedWith.1 m_Mo_resolvedWith.1 ∈ am_tbl := am_inS (q := (⟨"ShakePicturesModel", "resolvedWith", "(I)I"⟩, 51)) 57 (by decide +kernel)
theorem mb_Mo_heap : Cond.code m_Mo_heap.1 m_Mo_heap.2.1 m_Mo_heap.2.2.1 m_Mo_heap.2.2.2.1 ∈ am_tbl := am_in6 239 (by decide +kernel) (by decide +kernel)
theorem mz_Mo_heap : plainFor m_Mo_heap.1 = true ∧ (m_Mo_heap.1.cls ≠ "java/lang/invoke/MethodHandle" ∧ m_Mo_heap.1.cls ≠ "java/lang/invoke/VarHandle" ∧ (parseMethodDescriptor m_Mo_heap.1.desc).map (fun d => d.parameters.length) = some 3) := by decide +kernel
theorem mi_Mo_heap : Cond.instanceMethod m_Mo_heap.1 ∈ am_tbl := am_in6 237 (by decide +kernel) (by decide +kernel)
theorem se_Mo_heap : Cond.selects m_Mo_heap.1.cls m_Mo_heap.1 m_Mo_heap.1 ∈ am_tbl := am_in6 238 (by decide +kernel) (by decide +kernel)
theorem mb_Mo_findHeap : Cond.code m_Mo_findHeap.1 m_Mo_findHeap.2.1 m_Mo_findHeap.2.2.1 m_Mo_findHeap.2.2.2.1 ∈ am_tbl := am_in7 3 (by decide +kernel) (by decide +kernel)
theorem mz_Mo_findHeap : plainFor m_Mo_findHeap.1 = true ∧ (m_Mo_findHeap.1.cls ≠ "java/lang/invoke/MethodHandle" ∧ m_Mo_findHeap.1.cls ≠ "java/lang/invoke/VarHandle" ∧ (parseMethodDescriptor m_Mo_findHeap.1.desc).map (fun d => d.parameters.length) = some 2) := by decide +kernel
theorem mi_Mo_findHeap : Cond.instanceMethod m_Mo_findHeap.1 ∈ am_tbl := am_in7 2 (by decide +kernel) (by decide +kernel)
theorem se_Mo_findHeap : Cond.selects m_Mo_findHeap.1.cls m_Mo_findHeap.1 m_Mo_findHeap.1 ∈ am_tbl := am_inS (q := (⟨"ShakePicturesModel", "findHeap", "(II)V"⟩, 51)) 58 (by decide +kernel)
theorem mb_Mo_move : Cond.code m_Mo_move.1 m_Mo_move.2.1 m_Mo_move.2.2.1 m_Mo_move.2.2.2.1 ∈ am_tbl := am_in7 7 (by decide +kernel) (by decide +kernel)
theorem mz_Mo_move : plainFor m_Mo_move.1 = true ∧ (m_Mo_move.1.cls ≠ "java/lang/invoke/MethodHandle" ∧ m_Mo_move.1.cls ≠ "java/lang/invoke/VarHandle" ∧ (parseMethodDescriptor m_Mo_move.1.desc).map (fun d => d.parameters.length) = some 1) := by decide +kernel
theorem mi_Mo_move : Cond.instanceMethod m_Mo_move.1 ∈ am_tbl := am_in7 5 (by decide +kernel) (by decide +kernel)
theorem se_Mo_move : Cond.selects m_Mo_move.1.cls m_Mo_move.1 m_Mo_move.1 ∈ am_tbl := am_in7 6 (by decide +kernel) (by decide +kernel)
theorem mb_Mo_off : Cond.code m_Mo_off.1 m_Mo_off.2.1 m_Mo_off.2.2.1 m_Mo_off.2.2.2.1 ∈ am_tbl := am_in7 11 (by decide +kernel) (by decide +kernel)
theorem mz_Mo_off : plainFor m_Mo_off.1 = true ∧ (m_Mo_off.1.cls ≠ "java/lang/invoke/MethodHandle" ∧ m_Mo_off.1.cls ≠ "java/lang/invoke/VarHandle" ∧ (parseMethodDescriptor m_Mo_off.1.desc).map (fun d => d.parameters.length) = some 1) := by decide +kernel
theorem mi_Mo_off : Cond.instanceMethod m_Mo_off.1 ∈ am_tbl := am_in7 9 (by decide +kernel) (by decide +kernel)
theorem se_Mo_off : Cond.selects m_Mo_off.1.cls m_Mo_off.1 m_Mo_off.1 ∈ am_tbl := am_in7 10 (by decide +kernel) (by decide +kernel)
theorem mb_Mo_board : Cond.code m_Mo_board.1 m_Mo_board.2.1 m_Mo_board.2.2.1 m_Mo_board.2.2.2.1 ∈ am_tbl := am_in7 15 (by decide +kernel) (by decide +kernel)
theorem mz_Mo_board : plainFor m_Mo_board.1 = true ∧ (m_Mo_board.1.cls ≠ "java/lang/invoke/MethodHandle" ∧ m_Mo_board.1.cls ≠ "java/lang/invoke/VarHandle" ∧ (parseMethodDescriptor m_Mo_board.1.desc).map (fun d => d.parameters.length) = some 3) := by decide +kernel
theorem mi_Mo_board : Cond.instanceMethod m_Mo_board.1 ∈ am_tbl := am_in7 13 (by decide +kernel) (by decide +kernel)
theorem se_Mo_board : Cond.selects m_Mo_board.1.cls m_Mo_board.1 m_Mo_board.1 ∈ am_tbl := am_in7 14 (by decide +kernel) (by decide +kernel)
theorem mb_Mo_write : Cond.code m_Mo_write.1 m_Mo_write.2.1 m_Mo_write.2.2.1 m_Mo_write.2.2.2.1 ∈ am_tbl := am_in7 19 (by decide +kernel) (by decide +kernel)
theorem mz_Mo_write : plainFor m_Mo_write.1 = true ∧ (m_Mo_write.1.cls ≠ "java/lang/invoke/MethodHandle" ∧ m_Mo_write.1.cls ≠ "java/lang/invoke/VarHandle" ∧ (parseMethodDescriptor m_Mo_write.1.desc).map (fun d => d.parameters.length) = some 2) := by decide +kernel
theorem mi_Mo_write : Cond.instanceMethod m_Mo_write.1 ∈ am_tbl := am_in7 17 (by decide +kernel) (by decide +kernel)
theorem se_Mo_write : Cond.selects m_Mo_write.1.cls m_Mo_write.1 m_Mo_write.1 ∈ am_tbl := am_in7 18 (by decide +kernel) (by decide +kernel)
theorem mb_Mo_erase : Cond.code m_Mo_erase.1 m_Mo_erase.2.1 m_Mo_erase.2.2.1 m_Mo_erase.2.2.2.1 ∈ am_tbl := am_in7 24 (by decide +kernel) (by decide +kernel)
theorem mz_Mo_erase : plainFor m_Mo_erase.1 = true ∧ (m_Mo_erase.1.cls ≠ "java/lang/invoke/MethodHandle" ∧ m_Mo_erase.1.cls ≠ "java/lang/invoke/VarHandle" ∧ (parseMethodDescriptor m_Mo_erase.1.desc).map (fun d => d.parameters.length) = some 0) := by decide +kernel
theorem mi_Mo_erase : Cond.instanceMethod m_Mo_erase.1 ∈ am_tbl := am_in7 22 (by decide +kernel) (by decide +kernel)
theorem se_Mo_erase : Cond.selects m_Mo_erase.1.cls m_Mo_erase.1 m_Mo_erase.1 ∈ am_tbl := am_in7 23 (by decide +kernel) (by decide +kernel)
theorem mb_Mo_fault : Cond.code m_Mo_fault.1 m_Mo_fault.2.1 m_Mo_fault.2.2.1 m_Mo_fault.2.2.2.1 ∈ am_tbl := am_in7 28 (by decide +kernel) (by decide +kernel)
theorem mz_Mo_fault : plainFor m_Mo_fault.1 = true ∧ (m_Mo_fault.1.cls ≠ "java/lang/invoke/MethodHandle" ∧ m_Mo_fault.1.cls ≠ "java/lang/invoke/VarHandle" ∧ (parseMethodDescriptor m_Mo_fault.1.desc).map (fun d => d.parameters.length) = some 0) := by decide +kernel
theorem mi_Mo_fault : Cond.instanceMethod m_Mo_fault.1 ∈ am_tbl := am_in7 26 (by decide +kernel) (by decide +kernel)
theorem se_Mo_fault : Cond.selects m_Mo_fault.1.cls m_Mo_fault.1 m_Mo_fault.1 ∈ am_tbl := am_in7 27 (by decide +kernel) (by decide +kernel)
theorem mb_Mo_isRead : Cond.code m_Mo_isRead.1 m_Mo_isRead.2.1 m_Mo_isRead.2.2.1 m_Mo_isRead.2.2.2.1 ∈ am_tbl := am_in7 32 (by decide +kernel) (by decide +kernel)
theorem mz_Mo_isRead : plainFor m_Mo_isRead.1 = true ∧ (m_Mo_isRead.1.cls ≠ "java/lang/invoke/MethodHandle" ∧ m_Mo_isRead.1.cls ≠ "java/lang/invoke/VarHandle" ∧ (parseMethodDescriptor m_Mo_isRead.1.desc).map (fun d => d.parameters.length) = some 0) := by decide +kernel
theorem mi_Mo_isRead : Cond.instanceMethod m_Mo_isRead.1 ∈ am_tbl := am_in7 31 (by decide +kernel) (by decide +kernel)
theorem se_Mo_isRead : Cond.selects m_Mo_isRead.1.cls m_Mo_isRead.1 m_Mo_isRead.1 ∈ am_tbl := am_inS (q := (⟨"ShakePicturesModel", "isRead", "()Z"⟩, 51)) 59 (by decide +kernel)
theorem mb_Mo_nextToken : Cond.code m_Mo_nextToken.1 m_Mo_nextToken.2.1 m_Mo_nextToken.2.2.1 m_Mo_nextToken.2.2.2.1 ∈ am_tbl := am_in7 36 (by decide +kernel) (by decide +kernel)
theorem mz_Mo_nextToken : plainFor m_Mo_nextToken.1 = true ∧ (m_Mo_nextToken.1.cls ≠ "java/lang/invoke/MethodHandle" ∧ m_Mo_nextToken.1.cls ≠ "java/lang/invoke/VarHandle" ∧ (parseMethodDescriptor m_Mo_nextToken.1.desc).map (fun d => d.parameters.length) = some 0) := by decide +kernel
theorem mi_Mo_nextToken : Cond.instanceMethod m_Mo_nextToken.1 ∈ am_tbl := am_in7 35 (by decide +kernel) (by decide +kernel)
theorem se_Mo_nextToken : Cond.selects m_Mo_nextToken.1.cls m_Mo_nextToken.1 m_Mo_nextToken.1 ∈ am_tbl := am_inS (q := (⟨"ShakePicturesModel", "nextToken", "()V"⟩, 51)) 60 (by decide +kernel)
theorem mb_Mo_isStatement : Cond.code m_Mo_isStatement.1 m_Mo_isStatement.2.1 m_Mo_isStatement.2.2.1 m_Mo_isStatement.2.2.2.1 ∈ am_tbl := am_in7 46 (by decide +kernel) (by decide +kernel)
theorem mz_Mo_isStatement : plainFor m_Mo_isStatement.1 = true ∧ (m_Mo_isStatement.1.cls ≠ "java/lang/invoke/MethodHandle" ∧ m_Mo_isStatement.1.cls ≠ "java/lang/invoke/VarHandle" ∧ (parseMethodDescriptor m_Mo_isStatement.1.desc).map (fun d => d.parameters.length) = some 0) := by decide +kernel
theorem mi_Mo_isStatement : Cond.instanceMethod m_Mo_isStatement.1 ∈ am_tbl := am_in7 45 (by decide +kernel) (by decide +kernel)
theorem se_Mo_isStatement : Cond.selects m_Mo_isStatement.1.cls m_Mo_isStatement.1 m_Mo_isStatement.1 ∈ am_tbl := am_inS (q := (⟨"ShakePicturesModel", "isStatement", "()Z"⟩, 51)) 61 (by decide +kernel)
theorem mb_Mo_isTwo : Cond.code m_Mo_isTwo.1 m_Mo_isTwo.2.1 m_Mo_isTwo.2.2.1 m_Mo_isTwo.2.2.2.1 ∈ am_tbl := am_in7 51 (by decide +kernel) (by decide +kernel)
theorem mz_Mo_isTwo : plainFor m_Mo_isTwo.1 = true ∧ (m_Mo_isTwo.1.cls ≠ "java/lang/invoke/MethodHandle" ∧ m_Mo_isTwo.1.cls ≠ "java/lang/invoke/VarHandle" ∧ (parseMethodDescriptor m_Mo_isTwo.1.desc).map (fun d => d.parameters.length) = some 4) := by decide +kernel
theorem mi_Mo_isTwo : Cond.instanceMethod m_Mo_isTwo.1 ∈ am_tbl := am_in7 50 (by decide +kernel) (by decide +kernel)
theorem se_Mo_isTwo : Cond.selects m_Mo_isTwo.1.cls m_Mo_isTwo.1 m_Mo_isTwo.1 ∈ am_tbl := am_inS (q := (⟨"ShakePicturesModel", "isTwo", "(IIII)Z"⟩, 51)) 62 (by decide +kernel)
theorem mb_Mo_isNumber : Cond.code m_Mo_isNumber.1 m_Mo_isNumber.2.1 m_Mo_isNumber.2.2.1 m_Mo_isNumber.2.2.2.1 ∈ am_tbl := am_in7 55 (by decide +kernel) (by decide +kernel)
theorem mz_Mo_isNumber : plainFor m_Mo_isNumber.1 = true ∧ (m_Mo_isNumber.1.cls ≠ "java/lang/invoke/MethodHandle" ∧ m_Mo_isNumber.1.cls ≠ "java/lang/invoke/VarHandle" ∧ (parseMethodDescriptor m_Mo_isNumber.1.desc).map (fun d => d.parameters.length) = some 2) := by decide +kernel
theorem mi_Mo_isNumber : Cond.instanceMethod m_Mo_isNumber.1 ∈ am_tbl := am_in7 54 (by decide +kernel) (by decide +kernel)
theorem se_Mo_isNumber : Cond.selects m_Mo_isNumber.1.cls m_Mo_isNumber.1 m_Mo_isNumber.1 ∈ am_tbl := am_inS (q := (⟨"ShakePicturesModel", "isNumber", "(II)Z"⟩, 51)) 63 (by decide +kernel)
theorem mb_Mo_fails : Cond.code m_Mo_fails.1 m_Mo_fails.2.1 m_Mo_fails.2.2.1 m_Mo_fails.2.2.2.1 ∈ am_tbl := am_in7 59 (by decide +kernel) (by decide +kernel)
theorem mz_Mo_fails : plainFor m_Mo_fails.1 = true ∧ (m_Mo_fails.1.cls ≠ "java/lang/invoke/MethodHandle" ∧ m_Mo_fails.1.cls ≠ "java/lang/invoke/VarHandle" ∧ (parseMethodDescriptor m_Mo_fails.1.desc).map (fun d => d.parameters.length) = some 0) := by decide +kernel
theorem mi_Mo_fails : Cond.instanceMethod m_Mo_fails.1 ∈ am_tbl := am_in7 58 (by decide +kernel) (by decide +kernel)
theorem se_Mo_fails : Cond.selects m_Mo_fails.1.cls m_Mo_fails.1 m_Mo_fails.1 ∈ am_tbl := am_inS (q := (⟨"ShakePicturesModel", "fails", "()Z"⟩, 51)) 64 (by decide +kernel)
theorem mb_Mo_isFit : Cond.code m_Mo_isFit.1 m_Mo_isFit.2.1 m_Mo_isFit.2.2.1 m_Mo_isFit.2.2.2.1 ∈ am_tbl := am_in7 64 (by decide +kernel) (by decide +kernel)
theorem mz_Mo_isFit : plainFor m_Mo_isFit.1 = true ∧ (m_Mo_isFit.1.cls ≠ "java/lang/invoke/MethodHandle" ∧ m_Mo_isFit.1.cls ≠ "java/lang/invoke/VarHandle" ∧ (parseMethodDescriptor m_Mo_isFit.1.desc).map (fun d => d.parameters.length) = some 0) := by decide +kernel
theorem mi_Mo_isFit : Cond.instanceMethod m_Mo_isFit.1 ∈ am_tbl := am_in7 63 (by decide +kernel) (by decide +kernel)
theorem se_Mo_isFit : Cond.selects m_Mo_isFit.1.cls m_Mo_isFit.1 m_Mo_isFit.1 ∈ am_tbl := am_inS (q := (⟨"ShakePicturesModel", "isFit", "()Z"⟩, 51)) 65 (by decide +kernel)
theorem mb_Mo_isSplit : Cond.code m_Mo_isSplit.1 m_Mo_isSplit.2.1 m_Mo_isSplit.2.2.1 m_Mo_isSplit.2.2.2.1 ∈ am_tbl := am_in7 71 (by decide +kernel) (by decide +kernel)
theorem mz_Mo_isSplit : plainFor m_Mo_isSplit.1 = true ∧ (m_Mo_isSplit.1.cls ≠ "java/lang/invoke/MethodHandle" ∧ m_Mo_isSplit.1.cls ≠ "java/lang/invoke/VarHandle" ∧ (parseMethodDescriptor m_Mo_isSplit.1.desc).map (fun d => d.parameters.length) = some 0) := by decide +kernel
theorem mi_Mo_isSplit : Cond.instanceMethod m_Mo_isSplit.1 ∈ am_tbl := am_in7 70 (by decide +kernel) (by decide +kernel)
theorem se_Mo_isSplit : Cond.selects m_Mo_isSplit.1.cls m_Mo_isSplit.1 m_Mo_isSplit.1 ∈ am_tbl := am_inS (q := (⟨"ShakePicturesModel", "isSplit", "()Z"⟩, 51)) 66 (by decide +kernel)
theorem mb_Mo_run : Cond.code m_Mo_run.1 m_Mo_run.2.1 m_Mo_run.2.2.1 m_Mo_run.2.2.2.1 ∈ am_tbl := am_in7 77 (by decide +kernel) (by decide +kernel)
theorem mz_Mo_run : plainFor m_Mo_run.1 = true ∧ (m_Mo_run.1.cls ≠ "java/lang/invoke/MethodHandle" ∧ m_Mo_run.1.cls ≠ "java/lang/invoke/VarHandle" ∧ (parseMethodDescriptor m_Mo_run.1.desc).map (fun d => d.parameters.length) = some 0) := by decide +kernel
theorem mi_Mo_run : Cond.instanceMethod m_Mo_run.1 ∈ am_tbl := am_in7 75 (by decide +kernel) (by decide +kernel)
theorem se_Mo_run : Cond.selects m_Mo_run.1.cls m_Mo_run.1 m_Mo_run.1 ∈ am_tbl := am_in7 76 (by decide +kernel) (by decide +kernel)
theorem mb_Mo_isDone : Cond.code m_Mo_isDone.1 m_Mo_isDone.2.1 m_Mo_isDone.2.2.1 m_Mo_isDone.2.2.2.1 ∈ am_tbl := am_in7 81 (by decide +kernel) (by decide +kernel)
theorem mz_Mo_isDone : plainFor m_Mo_isDone.1 = true ∧ (m_Mo_isDone.1.cls ≠ "java/lang/invoke/MethodHandle" ∧ m_Mo_isDone.1.cls ≠ "java/lang/invoke/VarHandle" ∧ (parseMethodDescriptor m_Mo_isDone.1.desc).map (fun d => d.parameters.length) = some 1) := by decide +kernel
theorem mi_Mo_isDone : Cond.instanceMethod m_Mo_isDone.1 ∈ am_tbl := am_in7 80 (by decide +kernel) (by decide +kernel)
theorem se_Mo_isDone : Cond.selects m_Mo_isDone.1.cls m_Mo_isDone.1 m_Mo_isDone.1 ∈ am_tbl := am_inS (q := (⟨"ShakePicturesModel", "isDone", "(I)Z"⟩, 51)) 67 (by decide +kernel)
theorem mb_Mo_count : Cond.code m_Mo_count.1 m_Mo_count.2.1 m_Mo_count.2.2.1 m_Mo_count.2.2.2.1 ∈ am_tbl := am_in7 87 (by decide +kernel) (by decide +kernel)
theorem mz_Mo_count : plainFor m_Mo_count.1 = true ∧ (m_Mo_count.1.cls ≠ "java/lang/invoke/MethodHandle" ∧ m_Mo_count.1.cls ≠ "java/lang/invoke/VarHandle" ∧ (parseMethodDescriptor m_Mo_count.1.desc).map (fun d => d.parameters.length) = some 1) := by decide +kernel
theorem mi_Mo_count : Cond.instanceMethod m_Mo_count.1 ∈ am_tbl := am_in7 85 (by decide +kernel) (by decide +kernel)
theorem se_Mo_count : Cond.selects m_Mo_count.1.cls m_Mo_count.1 m_Mo_count.1 ∈ am_tbl := am_in7 86 (by decide +kernel) (by decide +kernel)
theorem mo_obj : Cond.instanceMethod objectInit ∈ am_tbl ∧ Cond.code objectInit ⟨#[0xb1]⟩ 1 none ∈ am_tbl := ⟨am_in1 27 (by decide +kernel) (by decide +kernel), am_in1 28 (by decide +kernel) (by decide +kernel)⟩
theorem ac_int : Cond.arrayClass .int ∈ am_tbl := am_in1 78 (by decide +kernel) (by decide +kernel)
theorem ac_long : Cond.arrayClass .long ∈ am_tbl := am_in2 53 (by decide +kernel) (by decide +kernel)
theorem ac_boolean : Cond.arrayClass .boolean ∈ am_tbl := am_in2 52 (by decide +kernel) (by decide +kernel)
theorem kc_In_265 : Cond.constant "java/lang/Integer" 265 (Int32.ofInt (1431655765)) ∈ am_tbl := am_in3 28 (by decide +kernel) (by decide +kernel)
theorem kc_In_266 : Cond.constant "java/lang/Integer" 266 (Int32.ofInt (858993459)) ∈ am_tbl := am_in3 29 (by decide +kernel) (by decide +kernel)
theorem kc_In_267 : Cond.constant "java/lang/Integer" 267 (Int32.ofInt (252645135)) ∈ am_tbl := am_in3 30 (by decide +kernel) (by decide +kernel)
theorem kc_Gr_60 : Cond.constant "ShakePictures$Ground" 60 (Int32.ofInt (1000000)) ∈ am_tbl := am_in3 54 (by decide +kernel) (by decide +kernel)
theorem kc_Ba_42 : Cond.constantLong "ShakePictures$Basis" 42 (Int64.ofInt (2147483647)) ∈ am_tbl := am_in4 72 (by decide +kernel) (by decide +kernel)
theorem kc_Sc_36 : Cond.constantLong "ShakePictures$Script" 36 (Int64.ofInt (255)) ∈ am_tbl := am_in4 206 (by decide +kernel) (by decide +kernel)
theorem kc_Mo_149 : Cond.constant "ShakePicturesModel" 149 (Int32.ofInt (1000000)) ∈ am_tbl := am_in6 64 (by decide +kernel) (by decide +kernel)
theorem kc_Mo_228 : Cond.constantLong "ShakePicturesModel" 228 (Int64.ofInt (2147483645)) ∈ am_tbl := am_in6 213 (by decide +kernel) (by decide +kernel)
theorem kc_Mo_230 : Cond.constantLong "ShakePicturesModel" 230 (Int64.ofInt (2)) ∈ am_tbl := am_in6 214 (by decide +kernel) (by decide +kernel)
theorem kc_Mo_232 : Cond.constantLong "ShakePicturesModel" 232 (Int64.ofInt (2147483647)) ∈ am_tbl := am_in6 215 (by decide +kernel) (by decide +kernel)
theorem kc_Mo_268 : Cond.constantLong "ShakePicturesModel" 268 (Int64.ofInt (255)) ∈ am_tbl := am_in7 20 (by decide +kernel) (by decide +kernel)
theorem kc_Mo_282 : Cond.constantLong "ShakePicturesModel" 282 (Int64.ofInt (-2)) ∈ am_tbl := am_in7 37 (by decide +kernel) (by decide +kernel)
theorem kc_Mo_288 : Cond.constantLong "ShakePicturesModel" 288 (Int64.ofInt (27)) ∈ am_tbl := am_in7 38 (by decide +kernel) (by decide +kernel)
theorem kc_Mo_290 : Cond.constantLong "ShakePicturesModel" 290 (Int64.ofInt (96)) ∈ am_tbl := am_in7 39 (by decide +kernel) (by decide +kernel)
theorem kc_Mo_292 : Cond.constantLong "ShakePicturesModel" 292 (Int64.ofInt (-4)) ∈ am_tbl := am_in7 40 (by decide +kernel) (by decide +kernel)
theorem kc_Mo_294 : Cond.constantLong "ShakePicturesModel" 294 (Int64.ofInt (-1)) ∈ am_tbl := am_in7 41 (by decide +kernel) (by decide +kernel)
theorem kc_Mo_296 : Cond.constantLong "ShakePicturesModel" 296 (Int64.ofInt (-3)) ∈ am_tbl := am_in7 42 (by decide +kernel) (by decide +kernel)
theorem kc_Mo_318 : Cond.constantLong "ShakePicturesModel" 318 (Int64.ofInt (383153)) ∈ am_tbl := am_in7 47 (by decide +kernel) (by decide +kernel)
theorem kc_Mo_324 : Cond.constantLong "ShakePicturesModel" 324 (Int64.ofInt (4637)) ∈ am_tbl := am_in7 60 (by decide +kernel) (by decide +kernel)
theorem kc_Mo_329 : Cond.constantLong "ShakePicturesModel" 329 (Int64.ofInt (267413)) ∈ am_tbl := am_in7 65 (by decide +kernel) (by decide +kernel)
theorem kc_Mo_331 : Cond.constantLong "ShakePicturesModel" 331 (Int64.ofInt (1841546)) ∈ am_tbl := am_in7 66 (by decide +kernel) (by decide +kernel)
theorem kc_Mo_333 : Cond.constantLong "ShakePicturesModel" 333 (Int64.ofInt (10421318)) ∈ am_tbl := am_in7 67 (by decide +kernel) (by decide +kernel)
theorem kc_Mo_314 : Cond.constantLong "ShakePicturesModel" 314 (Int64.ofInt (79)) ∈ am_tbl := am_in7 72 (by decide +kernel) (by decide +kernel)
theorem kc_Mo_316 : Cond.constantLong "ShakePicturesModel" 316 (Int64.ofInt (1111)) ∈ am_tbl := am_in7 73 (by decide +kernel) (by decide +kernel)
theorem kc_La_127 : Cond.constantLong "ShakePicturesLaw" 127 (Int64.ofInt (4294967295)) ∈ am_tbl := am_in7 88 (by decide +kernel) (by decide +kernel)
theorem fl_Gr_34 : am_FL "ShakePictures$Ground" 34 0 0 0 := ⟨_, _, _, rfl, by decide, am_in1 35 (by decide +kernel) (by decide +kernel), by decide +kernel⟩
theorem fw_Gr_34 : am_FW "ShakePictures$Ground" 34 0 0 0 .int := ⟨fl_Gr_34, fun C T N h => by cases h; rfl, rfl⟩
theorem fl_Sp_89 : am_FL "ShakePictures" 89 0 0 0 := ⟨_, _, _, rfl, by decide, am_in1 36 (by decide +kernel) (by decide +kernel), by decide +kernel⟩
theorem fw_Sp_89 : am_FW "ShakePictures" 89 0 0 0 .int := ⟨fl_Sp_89, fun C T N h => by cases h; rfl, rfl⟩
theorem fl_Re_59 : am_FL "ShakePictures$Resolver" 59 0 0 0 := ⟨_, _, _, rfl, by decide, am_in1 37 (by decide +kernel) (by decide +kernel), by decide +kernel⟩
theorem fw_Re_59 : am_FW "ShakePictures$Resolver" 59 0 0 0 .int := ⟨fl_Re_59, fun C T N h => by cases h; rfl, rfl⟩
theorem fl_Sc_73 : am_FL "ShakePictures$Script" 73 0 0 0 := ⟨_, _, _, rfl, by decide, am_in1 38 (by decide +kernel) (by decide +kernel), by decide +kernel⟩
theorem fw_Sc_73 : am_FW "ShakePictures$Script" 73 0 0 0 .int := ⟨fl_Sc_73, fun C T N h => by cases h; rfl, rfl⟩
theorem fl_Fi_78 : am_FL "ShakePictures$Finder" 78 0 0 0 := ⟨_, _, _, rfl, by decide, am_in1 39 (by decide +kernel) (by decide +kernel), by decide +kernel⟩
theorem fw_Fi_78 : am_FW "ShakePictures$Finder" 78 0 0 0 .int := ⟨fl_Fi_78, fun C T N h => by cases h; rfl, rfl⟩
theorem fl_Gr_9 : am_FL "ShakePictures$Ground" 9 0 1 0 := ⟨_, _, _, rfl, by decide, am_in1 40 (by decide +kernel) (by decide +kernel), by decide +kernel⟩
theorem fw_Gr_9 : am_FW "ShakePictures$Ground" 9 0 1 0 .int := ⟨fl_Gr_9, fun C T N h => by cases h; rfl, rfl⟩
theorem fl_Sp_93 : am_FL "ShakePictures" 93 0 1 0 := ⟨_, _, _, rfl, by decide, am_in1 41 (by decide +kernel) (by decide +kernel), by decide +kernel⟩
theorem fw_Sp_93 : am_FW "ShakePictures" 93 0 1 0 .int := ⟨fl_Sp_93, fun C T N h => by cases h; rfl, rfl⟩
theorem fl_Gr_15 : am_FL "ShakePictures$Ground" 15 0 2 2 := ⟨_, _, _, rfl, by decide, am_in1 42 (by decide +kernel) (by decide +kernel), by decide +kernel⟩
theorem fl_Me_32 : am_FL "ShakePictures$Memory" 32 0 2 2 := ⟨_, _, _, rfl, by decide, am_in1 43 (by decide +kernel) (by decide +kernel), by decide +kernel⟩
theorem fl_Sp_123 : am_FL "ShakePictures" 123 0 2 2 := ⟨_, _, _, rfl, by decide, am_in1 44 (by decide +kernel) (by decide +kernel), by decide +kernel⟩
theorem fl_Gr_19 : am_FL "ShakePictures$Ground" 19 0 3 2 := ⟨_, _, _, rfl, by decide, am_in1 45 (by decide +kernel) (by decide +kernel), by decide +kernel⟩
theorem fl_Me_41 : am_FL "ShakePictures$Memory" 41 0 3 2 := ⟨_, _, _, rfl, by decide, am_in1 46 (by decide +kernel) (by decide +kernel), by decide +kernel⟩
theorem fl_Sp_100 : am_FL "ShakePictures" 100 0 3 2 := ⟨_, _, _, rfl, by decide, am_in1 47 (by decide +kernel) (by decide +kernel), by decide +kernel⟩
theorem fl_Ft_87 : am_FL "ShakePictures$Fitter" 87 0 3 2 := ⟨_, _, _, rfl, by decide, am_in1 48 (by decide +kernel) (by decide +kernel), by decide +kernel⟩
theorem fl_Gr_22 : am_FL "ShakePictures$Ground" 22 0 4 2 := ⟨_, _, _, rfl, by decide, am_in1 49 (by decide +kernel) (by decide +kernel), by decide +kernel⟩
theorem fl_Gr_25 : am_FL "ShakePictures$Ground" 25 0 5 2 := ⟨_, _, _, rfl, by decide, am_in1 50 (by decide +kernel) (by decide +kernel), by decide +kernel⟩
theorem fl_Gr_28 : am_FL "ShakePictures$Ground" 28 0 6 2 := ⟨_, _, _, rfl, by decide, am_in1 51 (by decide +kernel) (by decide +kernel), by decide +kernel⟩
theorem fl_Ft_58 : am_FL "ShakePictures$Fitter" 58 0 6 2 := ⟨_, _, _, rfl, by decide, am_in1 52 (by decide +kernel) (by decide +kernel), by decide +kernel⟩
theorem fl_Fi_60 : am_FL "ShakePictures$Finder" 60 0 6 2 := ⟨_, _, _, rfl, by decide, am_in1 53 (by decide +kernel) (by decide +kernel), by decide +kernel⟩
theorem fl_Sp_132 : am_FL "ShakePictures" 132 0 6 2 := ⟨_, _, _, rfl, by decide, am_in1 54 (by decide +kernel) (by decide +kernel), by decide +kernel⟩
theorem fl_Gr_31 : am_FL "ShakePictures$Ground" 31 0 7 2 := ⟨_, _, _, rfl, by decide, am_in1 55 (by decide +kernel) (by decide +kernel), by decide +kernel⟩
theorem fl_Sp_142 : am_FL "ShakePictures" 142 0 7 2 := ⟨_, _, _, rfl, by decide, am_in1 56 (by decide +kernel) (by decide +kernel), by decide +kernel⟩
theorem fl_Sp_139 : am_FL "ShakePictures" 139 0 8 0 := ⟨_, _, _, rfl, by decide, am_in1 57 (by decide +kernel) (by decide +kernel), by decide +kernel⟩
theorem fw_Sp_139 : am_FW "ShakePictures" 139 0 8 0 .int := ⟨fl_Sp_139, fun C T N h => by cases h; rfl, rfl⟩
theorem fl_Gr_65 : am_FL "ShakePictures$Ground" 65 0 8 0 := ⟨_, _, _, rfl, by decide, am_in1 58 (by decide +kernel) (by decide +kernel), by decide +kernel⟩
theorem fw_Gr_65 : am_FW "ShakePictures$Ground" 65 0 8 0 .int := ⟨fl_Gr_65, fun C T N h => by cases h; rfl, rfl⟩
theorem fl_Bo_45 : am_FL "ShakePictures$Book" 45 1 0 0 := ⟨_, _, _, rfl, by decide, am_in1 92 (by decide +kernel) (by decide +kernel), by decide +kernel⟩
theorem fw_Bo_45 : am_FW "ShakePictures$Book" 45 1 0 0 .int := ⟨fl_Bo_45, fun C T N h => by cases h; rfl, rfl⟩
theorem fl_Sc_78 : am_FL "ShakePictures$Script" 78 1 0 0 := ⟨_, _, _, rfl, by decide, am_in1 93 (by decide +kernel) (by decide +kernel), by decide +kernel⟩
theorem fw_Sc_78 : am_FW "ShakePictures$Script" 78 1 0 0 .int := ⟨fl_Sc_78, fun C T N h => by cases h; rfl, rfl⟩
theorem fl_Sp_145 : am_FL "ShakePictures" 145 1 0 0 := ⟨_, _, _, rfl, by decide, am_in1 94 (by decide +kernel) (by decide +kernel), by decide +kernel⟩
theorem fw_Sp_145 : am_FW "ShakePictures" 145 1 0 0 .int := ⟨fl_Sp_145, fun C T N h => by cases h; rfl, rfl⟩
theorem fl_Bo_9 : am_FL "ShakePictures$Book" 9 1 1 2 := ⟨_, _, _, rfl, by decide, am_in1 95 (by decide +kernel) (by decide +kernel), by decide +kernel⟩
theorem fl_Fi_97 : am_FL "ShakePictures$Finder" 97 1 1 2 := ⟨_, _, _, rfl, by decide, am_in1 96 (by decide +kernel) (by decide +kernel), by decide +kernel⟩
theorem fl_Bo_15 : am_FL "ShakePictures$Book" 15 1 2 2 := ⟨_, _, _, rfl, by decide, am_in1 97 (by decide +kernel) (by decide +kernel), by decide +kernel⟩
theorem fl_Me_45 : am_FL "ShakePictures$Memory" 45 1 2 2 := ⟨_, _, _, rfl, by decide, am_in1 98 (by decide +kernel) (by decide +kernel), by decide +kernel⟩
theorem fl_Sp_154 : am_FL "ShakePictures" 154 1 2 2 := ⟨_, _, _, rfl, by decide, am_in1 99 (by decide +kernel) (by decide +kernel), by decide +kernel⟩
theorem fl_Bo_49 : am_FL "ShakePictures$Book" 49 1 3 0 := ⟨_, _, _, rfl, by decide, am_in1 100 (by decide +kernel) (by decide +kernel), by decide +kernel⟩
theorem fw_Bo_49 : am_FW "ShakePictures$Book" 49 1 3 0 .int := ⟨fl_Bo_49, fun C T N h => by cases h; rfl, rfl⟩
theorem fl_Re_76 : am_FL "ShakePictures$Resolver" 76 1 3 0 := ⟨_, _, _, rfl, by decide, am_in1 101 (by decide +kernel) (by decide +kernel), by decide +kernel⟩
theorem fw_Re_76 : am_FW "ShakePictures$Resolver" 76 1 3 0 .int := ⟨fl_Re_76, fun C T N h => by cases h; rfl, rfl⟩
theorem fl_Sc_68 : am_FL "ShakePictures$Script" 68 1 3 0 := ⟨_, _, _, rfl, by decide, am_in1 102 (by decide +kernel) (by decide +kernel), by decide +kernel⟩
theorem fw_Sc_68 : am_FW "ShakePictures$Script" 68 1 3 0 .int := ⟨fl_Sc_68, fun C T N h => by cases h; rfl, rfl⟩
theorem fl_Ft_99 : am_FL "ShakePictures$Fitter" 99 1 3 0 := ⟨_, _, _, rfl, by decide, am_in1 103 (by decide +kernel) (by decide +kernel), by decide +kernel⟩
theorem fw_Ft_99 : am_FW "ShakePictures$Fitter" 99 1 3 0 .int := ⟨fl_Ft_99, fun C T N h => by cases h; rfl, rfl⟩
theorem fl_Sp_157 : am_FL "ShakePictures" 157 1 3 0 := ⟨_, _, _, rfl, by decide, am_in1 104 (by decide +kernel) (by decide +kernel), by decide +kernel⟩
theorem fw_Sp_157 : am_FW "ShakePictures" 157 1 3 0 .int := ⟨fl_Sp_157, fun C T N h => by cases h; rfl, rfl⟩
theorem fl_Bo_18 : am_FL "ShakePictures$Book" 18 1 4 2 := ⟨_, _, _, rfl, by decide, am_in1 105 (by decide +kernel) (by decide +kernel), by decide +kernel⟩
theorem fl_Me_42 : am_FL "ShakePictures$Memory" 42 1 4 2 := ⟨_, _, _, rfl, by decide, am_in1 106 (by decide +kernel) (by decide +kernel), by decide +kernel⟩
theorem fl_Re_81 : am_FL "ShakePictures$Resolver" 81 1 4 2 := ⟨_, _, _, rfl, by decide, am_in1 107 (by decide +kernel) (by decide +kernel), by decide +kernel⟩
theorem fl_Ft_126 : am_FL "ShakePictures$Fitter" 126 1 4 2 := ⟨_, _, _, rfl, by decide, am_in1 108 (by decide +kernel) (by decide +kernel), by decide +kernel⟩
theorem fl_Sp_346 : am_FL "ShakePictures" 346 1 4 2 := ⟨_, _, _, rfl, by decide, am_in1 109 (by decide +kernel) (by decide +kernel), by decide +kernel⟩
theorem fl_Bo_21 : am_FL "ShakePictures$Book" 21 1 5 2 := ⟨_, _, _, rfl, by decide, am_in1 110 (by decide +kernel) (by decide +kernel), by decide +kernel⟩
theorem fl_Ft_119 : am_FL "ShakePictures$Fitter" 119 1 5 2 := ⟨_, _, _, rfl, by decide, am_in1 111 (by decide +kernel) (by decide +kernel), by decide +kernel⟩
theorem fl_Bo_52 : am_FL "ShakePictures$Book" 52 1 6 0 := ⟨_, _, _, rfl, by decide, am_in1 112 (by decide +kernel) (by decide +kernel), by decide +kernel⟩
theorem fw_Bo_52 : am_FW "ShakePictures$Book" 52 1 6 0 .int := ⟨fl_Bo_52, fun C T N h => by cases h; rfl, rfl⟩
theorem fl_Ra_32 : am_FL "ShakePictures$Rays" 32 1 6 0 := ⟨_, _, _, rfl, by decide, am_in1 113 (by decide +kernel) (by decide +kernel), by decide +kernel⟩
theorem fw_Ra_32 : am_FW "ShakePictures$Rays" 32 1 6 0 .int := ⟨fl_Ra_32, fun C T N h => by cases h; rfl, rfl⟩
theorem fl_Ft_67 : am_FL "ShakePictures$Fitter" 67 1 6 0 := ⟨_, _, _, rfl, by decide, am_in1 114 (by decide +kernel) (by decide +kernel), by decide +kernel⟩
theorem fw_Ft_67 : am_FW "ShakePictures$Fitter" 67 1 6 0 .int := ⟨fl_Ft_67, fun C T N h => by cases h; rfl, rfl⟩
theorem fl_Fi_49 : am_FL "ShakePictures$Finder" 49 1 6 0 := ⟨_, _, _, rfl, by decide, am_in1 115 (by decide +kernel) (by decide +kernel), by decide +kernel⟩
theorem fw_Fi_49 : am_FW "ShakePictures$Finder" 49 1 6 0 .int := ⟨fl_Fi_49, fun C T N h => by cases h; rfl, rfl⟩
theorem fl_Sp_173 : am_FL "ShakePictures" 173 1 6 0 := ⟨_, _, _, rfl, by decide, am_in1 116 (by decide +kernel) (by decide +kernel), by decide +kernel⟩
theorem fw_Sp_173 : am_FW "ShakePictures" 173 1 6 0 .int := ⟨fl_Sp_173, fun C T N h => by cases h; rfl, rfl⟩
theorem fl_Bo_24 : am_FL "ShakePictures$Book" 24 1 7 2 := ⟨_, _, _, rfl, by decide, am_in1 117 (by decide +kernel) (by decide +kernel), by decide +kernel⟩
theorem fl_Fi_88 : am_FL "ShakePictures$Finder" 88 1 7 2 := ⟨_, _, _, rfl, by decide, am_in1 118 (by decide +kernel) (by decide +kernel), by decide +kernel⟩
theorem fl_Bo_27 : am_FL "ShakePictures$Book" 27 1 8 2 := ⟨_, _, _, rfl, by decide, am_in1 119 (by decide +kernel) (by decide +kernel), by decide +kernel⟩
theorem fl_Fi_54 : am_FL "ShakePictures$Finder" 54 1 8 2 := ⟨_, _, _, rfl, by decide, am_in1 120 (by decide +kernel) (by decide +kernel), by decide +kernel⟩
theorem fl_Ft_116 : am_FL "ShakePictures$Fitter" 116 1 8 2 := ⟨_, _, _, rfl, by decide, am_in1 121 (by decide +kernel) (by decide +kernel), by decide +kernel⟩
theorem fl_Bo_30 : am_FL "ShakePictures$Book" 30 1 9 2 := ⟨_, _, _, rfl, by decide, am_in1 122 (by decide +kernel) (by decide +kernel), by decide +kernel⟩
theorem fl_Ft_46 : am_FL "ShakePictures$Fitter" 46 1 9 2 := ⟨_, _, _, rfl, by decide, am_in1 123 (by decide +kernel) (by decide +kernel), by decide +kernel⟩
theorem fl_Ra_37 : am_FL "ShakePictures$Rays" 37 1 9 2 := ⟨_, _, _, rfl, by decide, am_in1 124 (by decide +kernel) (by decide +kernel), by decide +kernel⟩
theorem fl_Fi_57 : am_FL "ShakePictures$Finder" 57 1 9 2 := ⟨_, _, _, rfl, by decide, am_in1 125 (by decide +kernel) (by decide +kernel), by decide +kernel⟩
theorem fl_Sp_207 : am_FL "ShakePictures" 207 1 9 2 := ⟨_, _, _, rfl, by decide, am_in1 126 (by decide +kernel) (by decide +kernel), by decide +kernel⟩
theorem fl_Bo_55 : am_FL "ShakePictures$Book" 55 1 10 0 := ⟨_, _, _, rfl, by decide, am_in1 127 (by decide +kernel) (by decide +kernel), by decide +kernel⟩
theorem fw_Bo_55 : am_FW "ShakePictures$Book" 55 1 10 0 .int := ⟨fl_Bo_55, fun C T N h => by cases h; rfl, rfl⟩
theorem fl_Sp_176 : am_FL "ShakePictures" 176 1 10 0 := ⟨_, _, _, rfl, by decide, am_in1 128 (by decide +kernel) (by decide +kernel), by decide +kernel⟩
theorem fw_Sp_176 : am_FW "ShakePictures" 176 1 10 0 .int := ⟨fl_Sp_176, fun C T N h => by cases h; rfl, rfl⟩
theorem fl_Bo_33 : am_FL "ShakePictures$Book" 33 1 11 2 := ⟨_, _, _, rfl, by decide, am_in1 129 (by decide +kernel) (by decide +kernel), by decide +kernel⟩
theorem fl_Bo_36 : am_FL "ShakePictures$Book" 36 1 12 2 := ⟨_, _, _, rfl, by decide, am_in1 130 (by decide +kernel) (by decide +kernel), by decide +kernel⟩
theorem fl_Bo_39 : am_FL "ShakePictures$Book" 39 1 13 2 := ⟨_, _, _, rfl, by decide, am_in1 131 (by decide +kernel) (by decide +kernel), by decide +kernel⟩
theorem fl_Sp_216 : am_FL "ShakePictures" 216 1 13 2 := ⟨_, _, _, rfl, by decide, am_in1 132 (by decide +kernel) (by decide +kernel), by decide +kernel⟩
theorem fl_Bo_42 : am_FL "ShakePictures$Book" 42 1 14 2 := ⟨_, _, _, rfl, by decide, am_in1 133 (by decide +kernel) (by decide +kernel), by decide +kernel⟩
theorem fl_Sp_219 : am_FL "ShakePictures" 219 1 14 2 := ⟨_, _, _, rfl, by decide, am_in1 134 (by decide +kernel) (by decide +kernel), by decide +kernel⟩
theorem fl_Bo_62 : am_FL "ShakePictures$Book" 62 1 15 0 := ⟨_, _, _, rfl, by decide, am_in1 135 (by decide +kernel) (by decide +kernel), by decide +kernel⟩
theorem fw_Bo_62 : am_FW "ShakePictures$Book" 62 1 15 0 .int := ⟨fl_Bo_62, fun C T N h => by cases h; rfl, rfl⟩
theorem fl_Sp_189 : am_FL "ShakePictures" 189 1 15 0 := ⟨_, _, _, rfl, by decide, am_in1 136 (by decide +kernel) (by decide +kernel), by decide +kernel⟩
theorem fw_Sp_189 : am_FW "ShakePictures" 189 1 15 0 .int := ⟨fl_Sp_189, fun C T N h => by cases h; rfl, rfl⟩
theorem fl_Ra_20 : am_FL "ShakePictures$Rays" 20 3 0 2 := ⟨_, _, _, rfl, by decide, am_in1 178 (by decide +kernel) (by decide +kernel), by decide +kernel⟩
theorem fl_Ra_24 : am_FL "ShakePictures$Rays" 24 3 1 2 := ⟨_, _, _, rfl, by decide, am_in1 179 (by decide +kernel) (by decide +kernel), by decide +kernel⟩
theorem fl_Ra_28 : am_FL "ShakePictures$Rays" 28 3 2 0 := ⟨_, _, _, rfl, by decide, am_in1 180 (by decide +kernel) (by decide +kernel), by decide +kernel⟩
theorem fw_Ra_28 : am_FW "ShakePictures$Rays" 28 3 2 0 .int := ⟨fl_Ra_28, fun C T N h => by cases h; rfl, rfl⟩
theorem fl_Pr_32 : am_FL "ShakePictures$Press" 32 3 2 0 := ⟨_, _, _, rfl, by decide, am_in1 181 (by decide +kernel) (by decide +kernel), by decide +kernel⟩
theorem fw_Pr_32 : am_FW "ShakePictures$Press" 32 3 2 0 .int := ⟨fl_Pr_32, fun C T N h => by cases h; rfl, rfl⟩
theorem fl_Re_40 : am_FL "ShakePictures$Resolver" 40 3 2 0 := ⟨_, _, _, rfl, by decide, am_in1 182 (by decide +kernel) (by decide +kernel), by decide +kernel⟩
theorem fw_Re_40 : am_FW "ShakePictures$Resolver" 40 3 2 0 .int := ⟨fl_Re_40, fun C T N h => by cases h; rfl, rfl⟩
theorem fl_Ra_9 : am_FL "ShakePictures$Rays" 9 3 3 2 := ⟨_, _, _, rfl, by decide, am_in1 183 (by decide +kernel) (by decide +kernel), by decide +kernel⟩
theorem fl_Pr_38 : am_FL "ShakePictures$Press" 38 3 3 2 := ⟨_, _, _, rfl, by decide, am_in1 184 (by decide +kernel) (by decide +kernel), by decide +kernel⟩
theorem fl_Ra_17 : am_FL "ShakePictures$Rays" 17 3 4 2 := ⟨_, _, _, rfl, by decide, am_in1 185 (by decide +kernel) (by decide +kernel), by decide +kernel⟩
theorem fl_Re_46 : am_FL "ShakePictures$Resolver" 46 3 4 2 := ⟨_, _, _, rfl, by decide, am_in1 186 (by decide +kernel) (by decide +kernel), by decide +kernel⟩
theorem fl_Pr_82 : am_FL "ShakePictures$Press" 82 3 4 2 := ⟨_, _, _, rfl, by decide, am_in1 187 (by decide +kernel) (by decide +kernel), by decide +kernel⟩
theorem fl_Ft_32 : am_FL "ShakePictures$Fitter" 32 2 0 2 := ⟨_, _, _, rfl, by decide, am_in1 206 (by decide +kernel) (by decide +kernel), by decide +kernel⟩
theorem fl_Ft_36 : am_FL "ShakePictures$Fitter" 36 2 1 2 := ⟨_, _, _, rfl, by decide, am_in1 207 (by decide +kernel) (by decide +kernel), by decide +kernel⟩
theorem fl_Ft_9 : am_FL "ShakePictures$Fitter" 9 2 2 2 := ⟨_, _, _, rfl, by decide, am_in1 208 (by decide +kernel) (by decide +kernel), by decide +kernel⟩
theorem fl_Ft_15 : am_FL "ShakePictures$Fitter" 15 2 3 2 := ⟨_, _, _, rfl, by decide, am_in1 209 (by decide +kernel) (by decide +kernel), by decide +kernel⟩
theorem fl_Ft_18 : am_FL "ShakePictures$Fitter" 18 2 4 2 := ⟨_, _, _, rfl, by decide, am_in1 210 (by decide +kernel) (by decide +kernel), by decide +kernel⟩
theorem fl_Ft_21 : am_FL "ShakePictures$Fitter" 21 2 5 2 := ⟨_, _, _, rfl, by decide, am_in1 211 (by decide +kernel) (by decide +kernel), by decide +kernel⟩
theorem fl_Ft_105 : am_FL "ShakePictures$Fitter" 105 2 6 0 := ⟨_, _, _, rfl, by decide, am_in1 212 (by decide +kernel) (by decide +kernel), by decide +kernel⟩
theorem fw_Ft_105 : am_FW "ShakePictures$Fitter" 105 2 6 0 .int := ⟨fl_Ft_105, fun C T N h => by cases h; rfl, rfl⟩
theorem fl_Ft_26 : am_FL "ShakePictures$Fitter" 26 2 7 2 := ⟨_, _, _, rfl, by decide, am_in1 213 (by decide +kernel) (by decide +kernel), by decide +kernel⟩
theorem fl_Ft_29 : am_FL "ShakePictures$Fitter" 29 2 8 2 := ⟨_, _, _, rfl, by decide, am_in1 214 (by decide +kernel) (by decide +kernel), by decide +kernel⟩
theorem fl_Pr_24 : am_FL "ShakePictures$Press" 24 4 0 2 := ⟨_, _, _, rfl, by decide, am_in2 0 (by decide +kernel) (by decide +kernel), by decide +kernel⟩
theorem fl_Pr_28 : am_FL "ShakePictures$Press" 28 4 1 2 := ⟨_, _, _, rfl, by decide, am_in2 1 (by decide +kernel) (by decide +kernel), by decide +kernel⟩
theorem fl_Pr_9 : am_FL "ShakePictures$Press" 9 4 2 2 := ⟨_, _, _, rfl, by decide, am_in2 2 (by decide +kernel) (by decide +kernel), by decide +kernel⟩
theorem fl_Pr_15 : am_FL "ShakePictures$Press" 15 4 3 2 := ⟨_, _, _, rfl, by decide, am_in2 3 (by decide +kernel) (by decide +kernel), by decide +kernel⟩
theorem fl_Pr_18 : am_FL "ShakePictures$Press" 18 4 4 2 := ⟨_, _, _, rfl, by decide, am_in2 4 (by decide +kernel) (by decide +kernel), by decide +kernel⟩
theorem fl_Sp_240 : am_FL "ShakePictures" 240 4 4 2 := ⟨_, _, _, rfl, by decide, am_in2 5 (by decide +kernel) (by decide +kernel), by decide +kernel⟩
theorem fl_Pr_21 : am_FL "ShakePictures$Press" 21 4 5 2 := ⟨_, _, _, rfl, by decide, am_in2 6 (by decide +kernel) (by decide +kernel), by decide +kernel⟩
theorem fl_Sp_243 : am_FL "ShakePictures" 243 4 5 2 := ⟨_, _, _, rfl, by decide, am_in2 7 (by decide +kernel) (by decide +kernel), by decide +kernel⟩
theorem fl_Pr_75 : am_FL "ShakePictures$Press" 75 4 6 0 := ⟨_, _, _, rfl, by decide, am_in2 8 (by decide +kernel) (by decide +kernel), by decide +kernel⟩
theorem fw_Pr_75 : am_FW "ShakePictures$Press" 75 4 6 0 .boolean := ⟨fl_Pr_75, fun C T N h => by cases h; rfl, rfl⟩
theorem fl_Ba_24 : am_FL "ShakePictures$Basis" 24 5 0 0 := ⟨_, _, _, rfl, by decide, am_in2 38 (by decide +kernel) (by decide +kernel), by decide +kernel⟩
theorem fw_Ba_24 : am_FW "ShakePictures$Basis" 24 5 0 0 .int := ⟨fl_Ba_24, fun C T N h => by cases h; rfl, rfl⟩
theorem fl_Sp_259 : am_FL "ShakePictures" 259 5 0 0 := ⟨_, _, _, rfl, by decide, am_in2 39 (by decide +kernel) (by decide +kernel), by decide +kernel⟩
theorem fw_Sp_259 : am_FW "ShakePictures" 259 5 0 0 .int := ⟨fl_Sp_259, fun C T N h => by cases h; rfl, rfl⟩
theorem fl_Ba_9 : am_FL "ShakePictures$Basis" 9 5 1 2 := ⟨_, _, _, rfl, by decide, am_in2 40 (by decide +kernel) (by decide +kernel), by decide +kernel⟩
theorem fl_Ba_17 : am_FL "ShakePictures$Basis" 17 5 2 2 := ⟨_, _, _, rfl, by decide, am_in2 41 (by decide +kernel) (by decide +kernel), by decide +kernel⟩
theorem fl_Ba_20 : am_FL "ShakePictures$Basis" 20 5 3 2 := ⟨_, _, _, rfl, by decide, am_in2 42 (by decide +kernel) (by decide +kernel), by decide +kernel⟩
theorem fl_Re_25 : am_FL "ShakePictures$Resolver" 25 6 0 2 := ⟨_, _, _, rfl, by decide, am_in2 54 (by decide +kernel) (by decide +kernel), by decide +kernel⟩
theorem fl_Re_29 : am_FL "ShakePictures$Resolver" 29 6 1 2 := ⟨_, _, _, rfl, by decide, am_in2 55 (by decide +kernel) (by decide +kernel), by decide +kernel⟩
theorem fl_Re_33 : am_FL "ShakePictures$Resolver" 33 6 2 2 := ⟨_, _, _, rfl, by decide, am_in2 56 (by decide +kernel) (by decide +kernel), by decide +kernel⟩
theorem fl_Re_12 : am_FL "ShakePictures$Resolver" 12 6 3 2 := ⟨_, _, _, rfl, by decide, am_in2 57 (by decide +kernel) (by decide +kernel), by decide +kernel⟩
theorem fl_Sp_255 : am_FL "ShakePictures" 255 6 3 2 := ⟨_, _, _, rfl, by decide, am_in2 58 (by decide +kernel) (by decide +kernel), by decide +kernel⟩
theorem fl_Re_18 : am_FL "ShakePictures$Resolver" 18 6 4 2 := ⟨_, _, _, rfl, by decide, am_in2 59 (by decide +kernel) (by decide +kernel), by decide +kernel⟩
theorem fl_Re_21 : am_FL "ShakePictures$Resolver" 21 6 5 2 := ⟨_, _, _, rfl, by decide, am_in2 60 (by decide +kernel) (by decide +kernel), by decide +kernel⟩
theorem fl_Re_53 : am_FL "ShakePictures$Resolver" 53 6 6 0 := ⟨_, _, _, rfl, by decide, am_in2 61 (by decide +kernel) (by decide +kernel), by decide +kernel⟩
theorem fw_Re_53 : am_FW "ShakePictures$Resolver" 53 6 6 0 .int := ⟨fl_Re_53, fun C T N h => by cases h; rfl, rfl⟩
theorem fl_Sp_273 : am_FL "ShakePictures" 273 6 6 0 := ⟨_, _, _, rfl, by decide, am_in2 62 (by decide +kernel) (by decide +kernel), by decide +kernel⟩
theorem fw_Sp_273 : am_FW "ShakePictures" 273 6 6 0 .int := ⟨fl_Sp_273, fun C T N h => by cases h; rfl, rfl⟩
theorem fl_Re_56 : am_FL "ShakePictures$Resolver" 56 6 7 0 := ⟨_, _, _, rfl, by decide, am_in2 63 (by decide +kernel) (by decide +kernel), by decide +kernel⟩
theorem fw_Re_56 : am_FW "ShakePictures$Resolver" 56 6 7 0 .int := ⟨fl_Re_56, fun C T N h => by cases h; rfl, rfl⟩
theorem fl_Sp_276 : am_FL "ShakePictures" 276 6 7 0 := ⟨_, _, _, rfl, by decide, am_in2 64 (by decide +kernel) (by decide +kernel), by decide +kernel⟩
theorem fw_Sp_276 : am_FW "ShakePictures" 276 6 7 0 .int := ⟨fl_Sp_276, fun C T N h => by cases h; rfl, rfl⟩
theorem fl_Fi_18 : am_FL "ShakePictures$Finder" 18 7 0 2 := ⟨_, _, _, rfl, by decide, am_in2 88 (by decide +kernel) (by decide +kernel), by decide +kernel⟩
theorem fl_Fi_22 : am_FL "ShakePictures$Finder" 22 7 1 2 := ⟨_, _, _, rfl, by decide, am_in2 89 (by decide +kernel) (by decide +kernel), by decide +kernel⟩
theorem fl_Fi_9 : am_FL "ShakePictures$Finder" 9 7 2 2 := ⟨_, _, _, rfl, by decide, am_in2 90 (by decide +kernel) (by decide +kernel), by decide +kernel⟩
theorem fl_Fi_15 : am_FL "ShakePictures$Finder" 15 7 3 2 := ⟨_, _, _, rfl, by decide, am_in2 91 (by decide +kernel) (by decide +kernel), by decide +kernel⟩
theorem fl_Fi_41 : am_FL "ShakePictures$Finder" 41 7 4 0 := ⟨_, _, _, rfl, by decide, am_in2 92 (by decide +kernel) (by decide +kernel), by decide +kernel⟩
theorem fw_Fi_41 : am_FW "ShakePictures$Finder" 41 7 4 0 .int := ⟨fl_Fi_41, fun C T N h => by cases h; rfl, rfl⟩
theorem fl_Fi_38 : am_FL "ShakePictures$Finder" 38 7 5 0 := ⟨_, _, _, rfl, by decide, am_in2 93 (by decide +kernel) (by decide +kernel), by decide +kernel⟩
theorem fw_Fi_38 : am_FW "ShakePictures$Finder" 38 7 5 0 .int := ⟨fl_Fi_38, fun C T N h => by cases h; rfl, rfl⟩
theorem fl_Sp_282 : am_FL "ShakePictures" 282 7 5 0 := ⟨_, _, _, rfl, by decide, am_in2 94 (by decide +kernel) (by decide +kernel), by decide +kernel⟩
theorem fw_Sp_282 : am_FW "ShakePictures" 282 7 5 0 .int := ⟨fl_Sp_282, fun C T N h => by cases h; rfl, rfl⟩
theorem fl_Fi_30 : am_FL "ShakePictures$Finder" 30 7 6 0 := ⟨_, _, _, rfl, by decide, am_in2 95 (by decide +kernel) (by decide +kernel), by decide +kernel⟩
theorem fw_Fi_30 : am_FW "ShakePictures$Finder" 30 7 6 0 .int := ⟨fl_Fi_30, fun C T N h => by cases h; rfl, rfl⟩
theorem fl_Sp_285 : am_FL "ShakePictures" 285 7 6 0 := ⟨_, _, _, rfl, by decide, am_in2 96 (by decide +kernel) (by decide +kernel), by decide +kernel⟩
theorem fw_Sp_285 : am_FW "ShakePictures" 285 7 6 0 .int := ⟨fl_Sp_285, fun C T N h => by cases h; rfl, rfl⟩
theorem fl_Sc_24 : am_FL "ShakePictures$Script" 24 8 0 2 := ⟨_, _, _, rfl, by decide, am_in2 118 (by decide +kernel) (by decide +kernel), by decide +kernel⟩
theorem fl_Sc_28 : am_FL "ShakePictures$Script" 28 8 1 2 := ⟨_, _, _, rfl, by decide, am_in2 119 (by decide +kernel) (by decide +kernel), by decide +kernel⟩
theorem fl_Sc_9 : am_FL "ShakePictures$Script" 9 8 2 2 := ⟨_, _, _, rfl, by decide, am_in2 120 (by decide +kernel) (by decide +kernel), by decide +kernel⟩
theorem fl_Sc_32 : am_FL "ShakePictures$Script" 32 8 3 0 := ⟨_, _, _, rfl, by decide, am_in2 121 (by decide +kernel) (by decide +kernel), by decide +kernel⟩
theorem fw_Sc_32 : am_FW "ShakePictures$Script" 32 8 3 0 .int := ⟨fl_Sc_32, fun C T N h => by cases h; rfl, rfl⟩
theorem fl_Sp_318 : am_FL "ShakePictures" 318 8 3 0 := ⟨_, _, _, rfl, by decide, am_in2 122 (by decide +kernel) (by decide +kernel), by decide +kernel⟩
theorem fw_Sp_318 : am_FW "ShakePictures" 318 8 3 0 .int := ⟨fl_Sp_318, fun C T N h => by cases h; rfl, rfl⟩
theorem fl_Sc_54 : am_FL "ShakePictures$Script" 54 8 4 0 := ⟨_, _, _, rfl, by decide, am_in2 123 (by decide +kernel) (by decide +kernel), by decide +kernel⟩
theorem fw_Sc_54 : am_FW "ShakePictures$Script" 54 8 4 0 .int := ⟨fl_Sc_54, fun C T N h => by cases h; rfl, rfl⟩
theorem fl_Sc_51 : am_FL "ShakePictures$Script" 51 8 5 0 := ⟨_, _, _, rfl, by decide, am_in2 124 (by decide +kernel) (by decide +kernel), by decide +kernel⟩
theorem fw_Sc_51 : am_FW "ShakePictures$Script" 51 8 5 0 .int := ⟨fl_Sc_51, fun C T N h => by cases h; rfl, rfl⟩
theorem fl_Sc_38 : am_FL "ShakePictures$Script" 38 8 6 0 := ⟨_, _, _, rfl, by decide, am_in2 125 (by decide +kernel) (by decide +kernel), by decide +kernel⟩
theorem fw_Sc_38 : am_FW "ShakePictures$Script" 38 8 6 0 .int := ⟨fl_Sc_38, fun C T N h => by cases h; rfl, rfl⟩
theorem fl_Sc_102 : am_FL "ShakePictures$Script" 102 8 7 0 := ⟨_, _, _, rfl, by decide, am_in2 126 (by decide +kernel) (by decide +kernel), by decide +kernel⟩
theorem fw_Sc_102 : am_FW "ShakePictures$Script" 102 8 7 0 .int := ⟨fl_Sc_102, fun C T N h => by cases h; rfl, rfl⟩
theorem fl_Sc_41 : am_FL "ShakePictures$Script" 41 8 8 0 := ⟨_, _, _, rfl, by decide, am_in2 127 (by decide +kernel) (by decide +kernel), by decide +kernel⟩
theorem fw_Sc_41 : am_FW "ShakePictures$Script" 41 8 8 0 .int := ⟨fl_Sc_41, fun C T N h => by cases h; rfl, rfl⟩
theorem fl_Sp_328 : am_FL "ShakePictures" 328 8 8 0 := ⟨_, _, _, rfl, by decide, am_in2 128 (by decide +kernel) (by decide +kernel), by decide +kernel⟩
theorem fw_Sp_328 : am_FW "ShakePictures" 328 8 8 0 .int := ⟨fl_Sp_328, fun C T N h => by cases h; rfl, rfl⟩
theorem fl_Sc_15 : am_FL "ShakePictures$Script" 15 8 9 2 := ⟨_, _, _, rfl, by decide, am_in2 129 (by decide +kernel) (by decide +kernel), by decide +kernel⟩
theorem fl_Sp_331 : am_FL "ShakePictures" 331 8 9 2 := ⟨_, _, _, rfl, by decide, am_in2 130 (by decide +kernel) (by decide +kernel), by decide +kernel⟩
theorem fl_Sc_18 : am_FL "ShakePictures$Script" 18 8 10 2 := ⟨_, _, _, rfl, by decide, am_in2 131 (by decide +kernel) (by decide +kernel), by decide +kernel⟩
theorem fl_Sp_334 : am_FL "ShakePictures" 334 8 10 2 := ⟨_, _, _, rfl, by decide, am_in2 132 (by decide +kernel) (by decide +kernel), by decide +kernel⟩
theorem fl_Sc_21 : am_FL "ShakePictures$Script" 21 8 11 2 := ⟨_, _, _, rfl, by decide, am_in2 133 (by decide +kernel) (by decide +kernel), by decide +kernel⟩
theorem fl_Sp_337 : am_FL "ShakePictures" 337 8 11 2 := ⟨_, _, _, rfl, by decide, am_in2 134 (by decide +kernel) (by decide +kernel), by decide +kernel⟩
theorem fl_Me_24 : am_FL "ShakePictures$Memory" 24 9 0 2 := ⟨_, _, _, rfl, by decide, am_in2 166 (by decide +kernel) (by decide +kernel), by decide +kernel⟩
theorem fl_Me_28 : am_FL "ShakePictures$Memory" 28 9 1 2 := ⟨_, _, _, rfl, by decide, am_in2 167 (by decide +kernel) (by decide +kernel), by decide +kernel⟩
theorem fl_Me_9 : am_FL "ShakePictures$Memory" 9 9 2 2 := ⟨_, _, _, rfl, by decide, am_in2 168 (by decide +kernel) (by decide +kernel), by decide +kernel⟩
theorem fl_Me_15 : am_FL "ShakePictures$Memory" 15 9 3 2 := ⟨_, _, _, rfl, by decide, am_in2 169 (by decide +kernel) (by decide +kernel), by decide +kernel⟩
theorem fl_Me_18 : am_FL "ShakePictures$Memory" 18 9 4 2 := ⟨_, _, _, rfl, by decide, am_in2 170 (by decide +kernel) (by decide +kernel), by decide +kernel⟩
theorem fl_Me_21 : am_FL "ShakePictures$Memory" 21 9 5 2 := ⟨_, _, _, rfl, by decide, am_in2 171 (by decide +kernel) (by decide +kernel), by decide +kernel⟩
theorem fl_Sp_22 : am_FL "ShakePictures" 22 10 0 2 := ⟨_, _, _, rfl, by decide, am_in2 185 (by decide +kernel) (by decide +kernel), by decide +kernel⟩
theorem fl_Sp_28 : am_FL "ShakePictures" 28 10 1 2 := ⟨_, _, _, rfl, by decide, am_in2 186 (by decide +kernel) (by decide +kernel), by decide +kernel⟩
theorem fl_Sp_39 : am_FL "ShakePictures" 39 10 2 2 := ⟨_, _, _, rfl, by decide, am_in2 187 (by decide +kernel) (by decide +kernel), by decide +kernel⟩
theorem fl_Sp_32 : am_FL "ShakePictures" 32 10 3 2 := ⟨_, _, _, rfl, by decide, am_in2 188 (by decide +kernel) (by decide +kernel), by decide +kernel⟩
theorem fl_Sp_48 : am_FL "ShakePictures" 48 10 4 2 := ⟨_, _, _, rfl, by decide, am_in2 189 (by decide +kernel) (by decide +kernel), by decide +kernel⟩
theorem fl_Sp_57 : am_FL "ShakePictures" 57 10 5 2 := ⟨_, _, _, rfl, by decide, am_in2 190 (by decide +kernel) (by decide +kernel), by decide +kernel⟩
theorem fl_Sp_64 : am_FL "ShakePictures" 64 10 6 2 := ⟨_, _, _, rfl, by decide, am_in2 191 (by decide +kernel) (by decide +kernel), by decide +kernel⟩
theorem fl_Sp_71 : am_FL "ShakePictures" 71 10 7 2 := ⟨_, _, _, rfl, by decide, am_in2 192 (by decide +kernel) (by decide +kernel), by decide +kernel⟩
theorem fl_Sp_78 : am_FL "ShakePictures" 78 10 8 2 := ⟨_, _, _, rfl, by decide, am_in2 193 (by decide +kernel) (by decide +kernel), by decide +kernel⟩
theorem fx_St_38 : Cond.fieldLink "java/lang/String" 38 "java/lang/String" "COMPACT_STRINGS" "Z" ∈ am_tbl := am_in5 19 (by decide +kernel) (by decide +kernel)
theorem fx_St_1053 : Cond.fieldLink "java/lang/String" 1053 "jdk/internal/util/Preconditions" "SIOOBE_FORMATTER" "Ljava/util/function/BiFunction;" ∈ am_tbl := am_in5 35 (by decide +kernel) (by decide +kernel)
theorem fx_U6_44 : Cond.fieldLink "java/lang/StringUTF16" 44 "java/lang/StringUTF16" "$assertionsDisabled" "Z" ∈ am_tbl := am_in5 53 (by decide +kernel) (by decide +kernel)
theorem fx_U6_59 : Cond.fieldLink "java/lang/StringUTF16" 59 "java/lang/StringUTF16" "HI_BYTE_SHIFT" "I" ∈ am_tbl := am_in5 55 (by decide +kernel) (by decide +kernel)
theorem fx_U6_63 : Cond.fieldLink "java/lang/StringUTF16" 63 "java/lang/StringUTF16" "LO_BYTE_SHIFT" "I" ∈ am_tbl := am_in5 57 (by decide +kernel) (by decide +kernel)
theorem fl_Mo_7 : am_FL "ShakePicturesModel" 7 11 0 0 := ⟨_, _, _, rfl, by decide, am_in5 97 (by decide +kernel) (by decide +kernel), by decide +kernel⟩
theorem fw_Mo_7 : am_FW "ShakePicturesModel" 7 11 0 0 .int := ⟨fl_Mo_7, fun C T N h => by cases h; rfl, rfl⟩
theorem fl_Mo_13 : am_FL "ShakePicturesModel" 13 11 1 0 := ⟨_, _, _, rfl, by decide, am_in5 98 (by decide +kernel) (by decide +kernel), by decide +kernel⟩
theorem fw_Mo_13 : am_FW "ShakePicturesModel" 13 11 1 0 .int := ⟨fl_Mo_13, fun C T N h => by cases h; rfl, rfl⟩
theorem fl_Mo_16 : am_FL "ShakePicturesModel" 16 11 2 2 := ⟨_, _, _, rfl, by decide, am_in5 99 (by decide +kernel) (by decide +kernel), by decide +kernel⟩
theorem fl_Mo_20 : am_FL "ShakePicturesModel" 20 11 3 2 := ⟨_, _, _, rfl, by decide, am_in5 100 (by decide +kernel) (by decide +kernel), by decide +kernel⟩
theorem fl_Mo_23 : am_FL "ShakePicturesModel" 23 11 4 0 := ⟨_, _, _, rfl, by decide, am_in5 101 (by decide +kernel) (by decide +kernel), by decide +kernel⟩
theorem fw_Mo_23 : am_FW "ShakePicturesModel" 23 11 4 0 .int := ⟨fl_Mo_23, fun C T N h => by cases h; rfl, rfl⟩
theorem fl_Mo_126 : am_FL "ShakePicturesModel" 126 11 5 0 := ⟨_, _, _, rfl, by decide, am_in5 102 (by decide +kernel) (by decide +kernel), by decide +kernel⟩
theorem fw_Mo_126 : am_FW "ShakePicturesModel" 126 11 5 0 .int := ⟨fl_Mo_126, fun C T N h => by cases h; rfl, rfl⟩
theorem fl_Mo_26 : am_FL "ShakePicturesModel" 26 11 6 2 := ⟨_, _, _, rfl, by decide, am_in5 103 (by decide +kernel) (by decide +kernel), by decide +kernel⟩
theorem fl_Mo_29 : am_FL "ShakePicturesModel" 29 11 7 2 := ⟨_, _, _, rfl, by decide, am_in5 104 (by decide +kernel) (by decide +kernel), by decide +kernel⟩
theorem fl_Mo_129 : am_FL "ShakePicturesModel" 129 11 8 0 := ⟨_, _, _, rfl, by decide, am_in5 105 (by decide +kernel) (by decide +kernel), by decide +kernel⟩
theorem fw_Mo_129 : am_FW "ShakePicturesModel" 129 11 8 0 .int := ⟨fl_Mo_129, fun C T N h => by cases h; rfl, rfl⟩
theorem fl_Mo_32 : am_FL "ShakePicturesModel" 32 11 9 2 := ⟨_, _, _, rfl, by decide, am_in5 106 (by decide +kernel) (by decide +kernel), by decide +kernel⟩
theorem fl_Mo_35 : am_FL "ShakePicturesModel" 35 11 10 2 := ⟨_, _, _, rfl, by decide, am_in5 107 (by decide +kernel) (by decide +kernel), by decide +kernel⟩
theorem fl_Mo_132 : am_FL "ShakePicturesModel" 132 11 11 0 := ⟨_, _, _, rfl, by decide, am_in5 108 (by decide +kernel) (by decide +kernel), by decide +kernel⟩
theorem fw_Mo_132 : am_FW "ShakePicturesModel" 132 11 11 0 .int := ⟨fl_Mo_132, fun C T N h => by cases h; rfl, rfl⟩
theorem fl_Mo_38 : am_FL "ShakePicturesModel" 38 11 12 2 := ⟨_, _, _, rfl, by decide, am_in5 109 (by decide +kernel) (by decide +kernel), by decide +kernel⟩
theorem fl_Mo_41 : am_FL "ShakePicturesModel" 41 11 13 2 := ⟨_, _, _, rfl, by decide, am_in5 110 (by decide +kernel) (by decide +kernel), by decide +kernel⟩
theorem fl_Mo_44 : am_FL "ShakePicturesModel" 44 11 14 2 := ⟨_, _, _, rfl, by decide, am_in5 111 (by decide +kernel) (by decide +kernel), by decide +kernel⟩
theorem fl_Mo_135 : am_FL "ShakePicturesModel" 135 11 15 0 := ⟨_, _, _, rfl, by decide, am_in5 112 (by decide +kernel) (by decide +kernel), by decide +kernel⟩
theorem fw_Mo_135 : am_FW "ShakePicturesModel" 135 11 15 0 .int := ⟨fl_Mo_135, fun C T N h => by cases h; rfl, rfl⟩
theorem fl_Mo_47 : am_FL "ShakePicturesModel" 47 11 16 2 := ⟨_, _, _, rfl, by decide, am_in5 113 (by decide +kernel) (by decide +kernel), by decide +kernel⟩
theorem fl_Mo_50 : am_FL "ShakePicturesModel" 50 11 17 2 := ⟨_, _, _, rfl, by decide, am_in5 114 (by decide +kernel) (by decide +kernel), by decide +kernel⟩
theorem fl_Mo_53 : am_FL "ShakePicturesModel" 53 11 18 2 := ⟨_, _, _, rfl, by decide, am_in5 115 (by decide +kernel) (by decide +kernel), by decide +kernel⟩
theorem fl_Mo_56 : am_FL "ShakePicturesModel" 56 11 19 2 := ⟨_, _, _, rfl, by decide, am_in5 116 (by decide +kernel) (by decide +kernel), by decide +kernel⟩
theorem fl_Mo_174 : am_FL "ShakePicturesModel" 174 11 20 0 := ⟨_, _, _, rfl, by decide, am_in5 117 (by decide +kernel) (by decide +kernel), by decide +kernel⟩
theorem fw_Mo_174 : am_FW "ShakePicturesModel" 174 11 20 0 .int := ⟨fl_Mo_174, fun C T N h => by cases h; rfl, rfl⟩
theorem fl_Mo_59 : am_FL "ShakePicturesModel" 59 11 21 2 := ⟨_, _, _, rfl, by decide, am_in5 118 (by decide +kernel) (by decide +kernel), by decide +kernel⟩
theorem fl_Mo_62 : am_FL "ShakePicturesModel" 62 11 22 2 := ⟨_, _, _, rfl, by decide, am_in5 119 (by decide +kernel) (by decide +kernel), by decide +kernel⟩
theorem fl_Mo_65 : am_FL "ShakePicturesModel" 65 11 23 2 := ⟨_, _, _, rfl, by decide, am_in5 120 (by decide +kernel) (by decide +kernel), by decide +kernel⟩
theorem fl_Mo_69 : am_FL "ShakePicturesModel" 69 11 24 2 := ⟨_, _, _, rfl, by decide, am_in5 121 (by decide +kernel) (by decide +kernel), by decide +kernel⟩
theorem fl_Mo_72 : am_FL "ShakePicturesModel" 72 11 25 2 := ⟨_, _, _, rfl, by decide, am_in5 122 (by decide +kernel) (by decide +kernel), by decide +kernel⟩
theorem fl_Mo_75 : am_FL "ShakePicturesModel" 75 11 26 2 := ⟨_, _, _, rfl, by decide, am_in5 123 (by decide +kernel) (by decide +kernel), by decide +kernel⟩
theorem fl_Mo_78 : am_FL "ShakePicturesModel" 78 11 27 2 := ⟨_, _, _, rfl, by decide, am_in5 124 (by decide +kernel) (by decide +kernel), by decide +kernel⟩
theorem fl_Mo_81 : am_FL "ShakePicturesModel" 81 11 28 2 := ⟨_, _, _, rfl, by decide, am_in5 125 (by decide +kernel) (by decide +kernel), by decide +kernel⟩
theorem fl_Mo_84 : am_FL "ShakePicturesModel" 84 11 29 2 := ⟨_, _, _, rfl, by decide, am_in5 126 (by decide +kernel) (by decide +kernel), by decide +kernel⟩
theorem fl_Mo_88 : am_FL "ShakePicturesModel" 88 11 30 2 := ⟨_, _, _, rfl, by decide, am_in5 127 (by decide +kernel) (by decide +kernel), by decide +kernel⟩
theorem fl_Mo_265 : am_FL "ShakePicturesModel" 265 11 31 0 := ⟨_, _, _, rfl, by decide, am_in5 128 (by decide +kernel) (by decide +kernel), by decide +kernel⟩
theorem fw_Mo_265 : am_FW "ShakePicturesModel" 265 11 31 0 .int := ⟨fl_Mo_265, fun C T N h => by cases h; rfl, rfl⟩
theorem fl_Mo_91 : am_FL "ShakePicturesModel" 91 11 32 2 := ⟨_, _, _, rfl, by decide, am_in5 129 (by decide +kernel) (by decide +kernel), by decide +kernel⟩
theorem fl_Mo_270 : am_FL "ShakePicturesModel" 270 11 33 0 := ⟨_, _, _, rfl, by decide, am_in5 130 (by decide +kernel) (by decide +kernel), by decide +kernel⟩
theorem fw_Mo_270 : am_FW "ShakePicturesModel" 270 11 33 0 .int := ⟨fl_Mo_270, fun C T N h => by cases h; rfl, rfl⟩
theorem fl_Mo_273 : am_FL "ShakePicturesModel" 273 11 34 0 := ⟨_, _, _, rfl, by decide, am_in5 131 (by decide +kernel) (by decide +kernel), by decide +kernel⟩
theorem fw_Mo_273 : am_FW "ShakePicturesModel" 273 11 34 0 .int := ⟨fl_Mo_273, fun C T N h => by cases h; rfl, rfl⟩
theorem fl_Mo_284 : am_FL "ShakePicturesModel" 284 11 35 1 := ⟨_, _, _, rfl, by decide, am_in5 132 (by decide +kernel) (by decide +kernel), by decide +kernel⟩
theorem fw_Mo_284 : am_FW "ShakePicturesModel" 284 11 35 1 .long := ⟨fl_Mo_284, fun C T N h => by cases h; rfl, rfl⟩
theorem fl_Mo_276 : am_FL "ShakePicturesModel" 276 11 36 0 := ⟨_, _, _, rfl, by decide, am_in5 133 (by decide +kernel) (by decide +kernel), by decide +kernel⟩
theorem fw_Mo_276 : am_FW "ShakePicturesModel" 276 11 36 0 .int := ⟨fl_Mo_276, fun C T N h => by cases h; rfl, rfl⟩
theorem fl_Mo_279 : am_FL "ShakePicturesModel" 279 11 37 0 := ⟨_, _, _, rfl, by decide, am_in5 134 (by decide +kernel) (by decide +kernel), by decide +kernel⟩
theorem fw_Mo_279 : am_FW "ShakePicturesModel" 279 11 37 0 .int := ⟨fl_Mo_279, fun C T N h => by cases h; rfl, rfl⟩
theorem fl_Mo_298 : am_FL "ShakePicturesModel" 298 11 38 0 := ⟨_, _, _, rfl, by decide, am_in5 135 (by decide +kernel) (by decide +kernel), by decide +kernel⟩
theorem fw_Mo_298 : am_FW "ShakePicturesModel" 298 11 38 0 .int := ⟨fl_Mo_298, fun C T N h => by cases h; rfl, rfl⟩
theorem fl_Mo_301 : am_FL "ShakePicturesModel" 301 11 39 0 := ⟨_, _, _, rfl, by decide, am_in5 136 (by decide +kernel) (by decide +kernel), by decide +kernel⟩
theorem fw_Mo_301 : am_FW "ShakePicturesModel" 301 11 39 0 .int := ⟨fl_Mo_301, fun C T N h => by cases h; rfl, rfl⟩
theorem fl_Mo_94 : am_FL "ShakePicturesModel" 94 11 40 2 := ⟨_, _, _, rfl, by decide, am_in5 137 (by decide +kernel) (by decide +kernel), by decide +kernel⟩
theorem fl_Mo_97 : am_FL "ShakePicturesModel" 97 11 41 2 := ⟨_, _, _, rfl, by decide, am_in5 138 (by decide +kernel) (by decide +kernel), by decide +kernel⟩
theorem fl_Mo_100 : am_FL "ShakePicturesModel" 100 11 42 2 := ⟨_, _, _, rfl, by decide, am_in5 139 (by decide +kernel) (by decide +kernel), by decide +kernel⟩
theorem fl_Mo_103 : am_FL "ShakePicturesModel" 103 11 43 2 := ⟨_, _, _, rfl, by decide, am_in5 140 (by decide +kernel) (by decide +kernel), by decide +kernel⟩
theorem fl_Mo_106 : am_FL "ShakePicturesModel" 106 11 44 2 := ⟨_, _, _, rfl, by decide, am_in5 141 (by decide +kernel) (by decide +kernel), by decide +kernel⟩
theorem fl_Mo_109 : am_FL "ShakePicturesModel" 109 11 45 2 := ⟨_, _, _, rfl, by decide, am_in5 142 (by decide +kernel) (by decide +kernel), by decide +kernel⟩
theorem fl_Mo_112 : am_FL "ShakePicturesModel" 112 11 46 2 := ⟨_, _, _, rfl, by decide, am_in5 143 (by decide +kernel) (by decide +kernel), by decide +kernel⟩
theorem fl_Mo_115 : am_FL "ShakePicturesModel" 115 11 47 2 := ⟨_, _, _, rfl, by decide, am_in5 144 (by decide +kernel) (by decide +kernel), by decide +kernel⟩
theorem fl_Mo_244 : am_FL "ShakePicturesModel" 244 11 48 0 := ⟨_, _, _, rfl, by decide, am_in5 145 (by decide +kernel) (by decide +kernel), by decide +kernel⟩
theorem fw_Mo_244 : am_FW "ShakePicturesModel" 244 11 48 0 .int := ⟨fl_Mo_244, fun C T N h => by cases h; rfl, rfl⟩
theorem fl_Mo_256 : am_FL "ShakePicturesModel" 256 11 49 0 := ⟨_, _, _, rfl, by decide, am_in5 146 (by decide +kernel) (by decide +kernel), by decide +kernel⟩
theorem fw_Mo_256 : am_FW "ShakePicturesModel" 256 11 49 0 .int := ⟨fl_Mo_256, fun C T N h => by cases h; rfl, rfl⟩
theorem fl_Mo_259 : am_FL "ShakePicturesModel" 259 11 50 0 := ⟨_, _, _, rfl, by decide, am_in5 147 (by decide +kernel) (by decide +kernel), by decide +kernel⟩
theorem fw_Mo_259 : am_FW "ShakePicturesModel" 259 11 50 0 .int := ⟨fl_Mo_259, fun C T N h => by cases h; rfl, rfl⟩
theorem fx_St_9 : Cond.fieldLink "java/lang/String" 9 "java/lang/String" "value" "[B" ∈ am_tbl := am_in7 89 (by decide +kernel) (by decide +kernel)
theorem fx_St_15 : Cond.fieldLink "java/lang/String" 15 "java/lang/String" "coder" "B" ∈ am_tbl := am_in7 90 (by decide +kernel) (by decide +kernel)
theorem nl_La_7 : am_NL "ShakePicturesLaw" 7 10 := ⟨_, _, _, rfl, by decide, am_in1 21 (by decide +kernel) (by decide +kernel), am_in1 22 (by decide +kernel) (by decide +kernel), ic_Sp⟩
theorem nl_Sp_7 : am_NL "ShakePictures" 7 0 := ⟨_, _, _, rfl, by decide, am_in1 29 (by decide +kernel) (by decide +kernel), am_in1 30 (by decide +kernel) (by decide +kernel), ic_Gr⟩
theorem nl_Sp_14 : am_NL "ShakePictures" 14 1 := ⟨_, _, _, rfl, by decide, am_in1 86 (by decide +kernel) (by decide +kernel), am_in1 87 (by decide +kernel) (by decide +kernel), ic_Bo⟩
theorem nl_Sp_17 : am_NL "ShakePictures" 17 3 := ⟨_, _, _, rfl, by decide, am_in1 170 (by decide +kernel) (by decide +kernel), am_in1 171 (by decide +kernel) (by decide +kernel), ic_Ra⟩
theorem nx_Ra_15 : Cond.classLink "ShakePictures$Rays" 15 "[[I" ∈ am_tbl := am_in1 176 (by decide +kernel) (by decide +kernel)
theorem nl_Sp_36 : am_NL "ShakePictures" 36 2 := ⟨_, _, _, rfl, by decide, am_in1 199 (by decide +kernel) (by decide +kernel), am_in1 200 (by decide +kernel) (by decide +kernel), ic_Ft⟩
theorem nx_Ft_24 : Cond.classLink "ShakePictures$Fitter" 24 "[[I" ∈ am_tbl := am_in1 205 (by decide +kernel) (by decide +kernel)
theorem nl_Sp_43 : am_NL "ShakePictures" 43 4 := ⟨_, _, _, rfl, by decide, am_in1 234 (by decide +kernel) (by decide +kernel), am_in1 235 (by decide +kernel) (by decide +kernel), ic_Pr⟩
theorem nl_Sp_52 : am_NL "ShakePictures" 52 6 := ⟨_, _, _, rfl, by decide, am_in2 24 (by decide +kernel) (by decide +kernel), am_in2 25 (by decide +kernel) (by decide +kernel), ic_Re⟩
theorem nl_Re_9 : am_NL "ShakePictures$Resolver" 9 5 := ⟨_, _, _, rfl, by decide, am_in2 30 (by decide +kernel) (by decide +kernel), am_in2 31 (by decide +kernel) (by decide +kernel), ic_Ba⟩
theorem nx_Ba_15 : Cond.classLink "ShakePictures$Basis" 15 "[[J" ∈ am_tbl := am_in2 36 (by decide +kernel) (by decide +kernel)
theorem nl_Sp_61 : am_NL "ShakePictures" 61 7 := ⟨_, _, _, rfl, by decide, am_in2 82 (by decide +kernel) (by decide +kernel), am_in2 83 (by decide +kernel) (by decide +kernel), ic_Fi⟩
theorem nl_Sp_68 : am_NL "ShakePictures" 68 8 := ⟨_, _, _, rfl, by decide, am_in2 112 (by decide +kernel) (by decide +kernel), am_in2 113 (by decide +kernel) (by decide +kernel), ic_Sc⟩
theorem nl_Sp_75 : am_NL "ShakePictures" 75 9 := ⟨_, _, _, rfl, by decide, am_in2 160 (by decide +kernel) (by decide +kernel), am_in2 161 (by decide +kernel) (by decide +kernel), ic_Me⟩
theorem nl_La_10 : am_NL "ShakePicturesLaw" 10 11 := ⟨_, _, _, rfl, by decide, am_in5 91 (by decide +kernel) (by decide +kernel), am_in5 92 (by decide +kernel) (by decide +kernel), ic_Mo⟩
theorem ml_La_9 : Cond.methodLink "ShakePicturesLaw" 9 m_Sp_init.1 ∈ am_tbl := am_in1 23 (by decide +kernel) (by decide +kernel)
theorem ml_Sp_1 : Cond.methodLink "ShakePictures" 1 objectInit ∈ am_tbl := am_in1 26 (by decide +kernel) (by decide +kernel)
theorem ml_Gr_3 : Cond.methodLink "ShakePictures$Ground" 3 objectInit ∈ am_tbl := am_in1 34 (by decide +kernel) (by decide +kernel)
theorem ml_Sp_10 : Cond.methodLink "ShakePictures" 10 m_Gr_lay.1 ∈ am_tbl := am_in1 79 (by decide +kernel) (by decide +kernel)
theorem ml_Gr_37 : Cond.methodLink "ShakePictures$Ground" 37 m_Ar_fill.1 ∈ am_tbl := am_in1 83 (by decide +kernel) (by decide +kernel)
theorem ml_Bo_3 : Cond.methodLink "ShakePictures$Book" 3 objectInit ∈ am_tbl := am_in1 91 (by decide +kernel) (by decide +kernel)
theorem ml_Sp_19 : Cond.methodLink "ShakePictures" 19 m_Ra_init.1 ∈ am_tbl := am_in1 172 (by decide +kernel) (by decide +kernel)
theorem ml_Ra_3 : Cond.methodLink "ShakePictures$Rays" 3 objectInit ∈ am_tbl := am_in1 175 (by decide +kernel) (by decide +kernel)
theorem ml_Sp_38 : Cond.methodLink "ShakePictures" 38 m_Ft_init.1 ∈ am_tbl := am_in1 201 (by decide +kernel) (by decide +kernel)
theorem ml_Ft_3 : Cond.methodLink "ShakePictures$Fitter" 3 objectInit ∈ am_tbl := am_in1 204 (by decide +kernel) (by decide +kernel)
theorem ml_Sp_45 : Cond.methodLink "ShakePictures" 45 m_Pr_init.1 ∈ am_tbl := am_in1 236 (by decide +kernel) (by decide +kernel)
theorem ml_Pr_3 : Cond.methodLink "ShakePictures$Press" 3 objectInit ∈ am_tbl := am_in1 239 (by decide +kernel) (by decide +kernel)
theorem ml_Sp_54 : Cond.methodLink "ShakePictures" 54 m_Re_init.1 ∈ am_tbl := am_in2 26 (by decide +kernel) (by decide +kernel)
theorem ml_Re_3 : Cond.methodLink "ShakePictures$Resolver" 3 objectInit ∈ am_tbl := am_in2 29 (by decide +kernel) (by decide +kernel)
theorem ml_Ba_3 : Cond.methodLink "ShakePictures$Basis" 3 objectInit ∈ am_tbl := am_in2 35 (by decide +kernel) (by decide +kernel)
theorem ml_Sp_63 : Cond.methodLink "ShakePictures" 63 m_Fi_init.1 ∈ am_tbl := am_in2 84 (by decide +kernel) (by decide +kernel)
theorem ml_Fi_3 : Cond.methodLink "ShakePictures$Finder" 3 objectInit ∈ am_tbl := am_in2 87 (by decide +kernel) (by decide +kernel)
theorem ml_Sp_70 : Cond.methodLink "ShakePictures" 70 m_Sc_init.1 ∈ am_tbl := am_in2 114 (by decide +kernel) (by decide +kernel)
theorem ml_Sc_3 : Cond.methodLink "ShakePictures$Script" 3 objectInit ∈ am_tbl := am_in2 117 (by decide +kernel) (by decide +kernel)
theorem ml_Sp_77 : Cond.methodLink "ShakePictures" 77 m_Me_init.1 ∈ am_tbl := am_in2 162 (by decide +kernel) (by decide +kernel)
theorem ml_Me_3 : Cond.methodLink "ShakePictures$Memory" 3 objectInit ∈ am_tbl := am_in2 165 (by decide +kernel) (by decide +kernel)
theorem ml_La_13 : Cond.methodLink "ShakePicturesLaw" 13 m_Sp_ground.1 ∈ am_tbl := am_in2 213 (by decide +kernel) (by decide +kernel)
theorem ml_Sp_82 : Cond.methodLink "ShakePictures" 82 m_Sp_isWithin.1 ∈ am_tbl := am_in2 217 (by decide +kernel) (by decide +kernel)
theorem ml_Sp_86 : Cond.methodLink "ShakePictures" 86 m_Bo_forgetAll.1 ∈ am_tbl := am_in2 220 (by decide +kernel) (by decide +kernel)
theorem ml_La_18 : Cond.methodLink "ShakePicturesLaw" 18 m_Sp_ratio.1 ∈ am_tbl := am_in2 224 (by decide +kernel) (by decide +kernel)
theorem ml_La_23 : Cond.methodLink "ShakePicturesLaw" 23 m_Sp_slow.1 ∈ am_tbl := am_in2 228 (by decide +kernel) (by decide +kernel)
theorem ml_Sp_96 : Cond.methodLink "ShakePictures" 96 m_Sp_isBlock.1 ∈ am_tbl := am_in2 232 (by decide +kernel) (by decide +kernel)
theorem ml_La_27 : Cond.methodLink "ShakePicturesLaw" 27 m_Sp_split.1 ∈ am_tbl := am_in2 236 (by decide +kernel) (by decide +kernel)
theorem ml_Sp_104 : Cond.methodLink "ShakePictures" 104 m_Gr_allCells.1 ∈ am_tbl := am_in3 0 (by decide +kernel) (by decide +kernel)
theorem ml_Sp_108 : Cond.methodLink "ShakePictures" 108 m_Gr_splitBlock.1 ∈ am_tbl := am_in3 4 (by decide +kernel) (by decide +kernel)
theorem ml_Gr_43 : Cond.methodLink "ShakePictures$Ground" 43 m_Gr_cellsOf.1 ∈ am_tbl := am_in3 8 (by decide +kernel) (by decide +kernel)
theorem ml_Gr_52 : Cond.methodLink "ShakePictures$Ground" 52 m_Gr_moveCells.1 ∈ am_tbl := am_in3 12 (by decide +kernel) (by decide +kernel)
theorem ml_La_31 : Cond.methodLink "ShakePicturesLaw" 31 m_Sp_join.1 ∈ am_tbl := am_in3 16 (by decide +kernel) (by decide +kernel)
theorem ml_Sp_112 : Cond.methodLink "ShakePictures" 112 m_Gr_moveCells.1 ∈ am_tbl := am_in3 20 (by decide +kernel) (by decide +kernel)
theorem ml_Sp_116 : Cond.methodLink "ShakePictures" 116 m_Gr_cellsIn.1 ∈ am_tbl := am_in3 21 (by decide +kernel) (by decide +kernel)
theorem ml_Gr_47 : Cond.methodLink "ShakePictures$Ground" 47 m_In_bitCount.1 ∈ am_tbl := am_in3 25 (by decide +kernel) (by decide +kernel)
theorem ml_La_35 : Cond.methodLink "ShakePicturesLaw" 35 m_Sp_at.1 ∈ am_tbl := am_in3 31 (by decide +kernel) (by decide +kernel)
theorem ml_Sp_120 : Cond.methodLink "ShakePictures" 120 m_Sp_isCell.1 ∈ am_tbl := am_in3 35 (by decide +kernel) (by decide +kernel)
theorem ml_La_39 : Cond.methodLink "ShakePicturesLaw" 39 m_Sp_time.1 ∈ am_tbl := am_in3 39 (by decide +kernel) (by decide +kernel)
theorem ml_Sp_126 : Cond.methodLink "ShakePictures" 126 m_Sp_isKind.1 ∈ am_tbl := am_in3 43 (by decide +kernel) (by decide +kernel)
theorem ml_Sp_129 : Cond.methodLink "ShakePictures" 129 m_Gr_spread.1 ∈ am_tbl := am_in3 46 (by decide +kernel) (by decide +kernel)
theorem ml_Gr_56 : Cond.methodLink "ShakePictures$Ground" 56 m_Gr_price.1 ∈ am_tbl := am_in3 50 (by decide +kernel) (by decide +kernel)
theorem ml_Gr_61 : Cond.methodLink "ShakePictures$Ground" 61 m_Gr_pull.1 ∈ am_tbl := am_in3 55 (by decide +kernel) (by decide +kernel)
theorem ml_La_44 : Cond.methodLink "ShakePicturesLaw" 44 m_Sp_way.1 ∈ am_tbl := am_in3 59 (by decide +kernel) (by decide +kernel)
theorem ml_Sp_135 : Cond.methodLink "ShakePictures" 135 m_Gr_trace.1 ∈ am_tbl := am_in3 63 (by decide +kernel) (by decide +kernel)
theorem ml_Gr_68 : Cond.methodLink "ShakePictures$Ground" 68 m_Gr_nextOnWay.1 ∈ am_tbl := am_in3 67 (by decide +kernel) (by decide +kernel)
theorem ml_La_49 : Cond.methodLink "ShakePicturesLaw" 49 m_Sp_ear.1 ∈ am_tbl := am_in3 71 (by decide +kernel) (by decide +kernel)
theorem ml_Sp_148 : Cond.methodLink "ShakePictures" 148 m_Bo_addEar.1 ∈ am_tbl := am_in3 75 (by decide +kernel) (by decide +kernel)
theorem ml_La_53 : Cond.methodLink "ShakePicturesLaw" 53 m_Sp_clock.1 ∈ am_tbl := am_in3 79 (by decide +kernel) (by decide +kernel)
theorem ml_Sp_151 : Cond.methodLink "ShakePictures" 151 m_Sp_isEar.1 ∈ am_tbl := am_in3 83 (by decide +kernel) (by decide +kernel)
theorem ml_La_57 : Cond.methodLink "ShakePicturesLaw" 57 m_Sp_shake.1 ∈ am_tbl := am_in3 87 (by decide +kernel) (by decide +kernel)
theorem ml_Sp_160 : Cond.methodLink "ShakePictures" 160 m_Bo_addShake.1 ∈ am_tbl := am_in3 91 (by decide +kernel) (by decide +kernel)
theorem ml_Bo_58 : Cond.methodLink "ShakePictures$Book" 58 m_Bo_placeShake.1 ∈ am_tbl := am_in3 95 (by decide +kernel) (by decide +kernel)
theorem ml_La_61 : Cond.methodLink "ShakePicturesLaw" 61 m_Sp_put.1 ∈ am_tbl := am_in3 99 (by decide +kernel) (by decide +kernel)
theorem ml_Sp_163 : Cond.methodLink "ShakePictures" 163 m_Sp_isShake.1 ∈ am_tbl := am_in3 103 (by decide +kernel) (by decide +kernel)
theorem ml_Sp_166 : Cond.methodLink "ShakePictures" 166 m_Bo_placeShake.1 ∈ am_tbl := am_in3 107 (by decide +kernel) (by decide +kernel)
theorem ml_La_65 : Cond.methodLink "ShakePicturesLaw" 65 m_Sp_pick.1 ∈ am_tbl := am_in3 108 (by decide +kernel) (by decide +kernel)
theorem ml_Sp_169 : Cond.methodLink "ShakePictures" 169 m_Sp_isSpan.1 ∈ am_tbl := am_in3 112 (by decide +kernel) (by decide +kernel)
theorem ml_Sp_179 : Cond.methodLink "ShakePictures" 179 m_Bo_addPick.1 ∈ am_tbl := am_in3 115 (by decide +kernel) (by decide +kernel)
theorem ml_Sp_183 : Cond.methodLink "ShakePictures" 183 m_Bo_addTelling.1 ∈ am_tbl := am_in3 119 (by decide +kernel) (by decide +kernel)
theorem ml_La_70 : Cond.methodLink "ShakePicturesLaw" 70 m_Sp_tell.1 ∈ am_tbl := am_in3 123 (by decide +kernel) (by decide +kernel)
theorem ml_Sp_186 : Cond.methodLink "ShakePictures" 186 m_Sp_isPick.1 ∈ am_tbl := am_in3 127 (by decide +kernel) (by decide +kernel)
theorem ml_La_74 : Cond.methodLink "ShakePicturesLaw" 74 m_Sp_days.1 ∈ am_tbl := am_in3 131 (by decide +kernel) (by decide +kernel)
theorem ml_La_78 : Cond.methodLink "ShakePicturesLaw" 78 m_Sp_of.1 ∈ am_tbl := am_in3 135 (by decide +kernel) (by decide +kernel)
theorem ml_Sp_192 : Cond.methodLink "ShakePictures" 192 m_Ft_foretold.1 ∈ am_tbl := am_in3 139 (by decide +kernel) (by decide +kernel)
theorem ml_Ft_40 : Cond.methodLink "ShakePictures$Fitter" 40 m_Bo_cellOfShake.1 ∈ am_tbl := am_in3 143 (by decide +kernel) (by decide +kernel)
theorem ml_Ft_49 : Cond.methodLink "ShakePictures$Fitter" 49 m_Gr_spread.1 ∈ am_tbl := am_in3 147 (by decide +kernel) (by decide +kernel)
theorem ml_Ft_55 : Cond.methodLink "ShakePictures$Fitter" 55 m_Bo_begunOf.1 ∈ am_tbl := am_in3 148 (by decide +kernel) (by decide +kernel)
theorem ml_Ft_61 : Cond.methodLink "ShakePictures$Fitter" 61 m_Bo_cellOfEar.1 ∈ am_tbl := am_in3 152 (by decide +kernel) (by decide +kernel)
theorem ml_Ft_64 : Cond.methodLink "ShakePictures$Fitter" 64 m_Bo_clockOf.1 ∈ am_tbl := am_in3 156 (by decide +kernel) (by decide +kernel)
theorem ml_Sp_195 : Cond.methodLink "ShakePictures" 195 m_Bo_lowNow.1 ∈ am_tbl := am_in3 160 (by decide +kernel) (by decide +kernel)
theorem ml_Bo_65 : Cond.methodLink "ShakePictures$Book" 65 m_Bo_lastTelling.1 ∈ am_tbl := am_in3 164 (by decide +kernel) (by decide +kernel)
theorem ml_Sp_198 : Cond.methodLink "ShakePictures" 198 m_Bo_highNow.1 ∈ am_tbl := am_in3 168 (by decide +kernel) (by decide +kernel)
theorem ml_Sp_201 : Cond.methodLink "ShakePictures" 201 m_Sp_missedBy.1 ∈ am_tbl := am_in3 172 (by decide +kernel) (by decide +kernel)
theorem ml_Sp_349 : Cond.methodLink "ShakePictures" 349 m_Ma_max.1 ∈ am_tbl := am_in3 175 (by decide +kernel) (by decide +kernel)
theorem ml_Sp_204 : Cond.methodLink "ShakePictures" 204 m_Bo_cellOfEar.1 ∈ am_tbl := am_in3 178 (by decide +kernel) (by decide +kernel)
theorem ml_Sp_210 : Cond.methodLink "ShakePictures" 210 m_Bo_cellOfShake.1 ∈ am_tbl := am_in3 179 (by decide +kernel) (by decide +kernel)
theorem ml_La_82 : Cond.methodLink "ShakePicturesLaw" 82 m_Sp_misfit.1 ∈ am_tbl := am_in3 180 (by decide +kernel) (by decide +kernel)
theorem ml_Sp_213 : Cond.methodLink "ShakePictures" 213 m_Bo_lastTelling.1 ∈ am_tbl := am_in3 184 (by decide +kernel) (by decide +kernel)
theorem ml_La_86 : Cond.methodLink "ShakePicturesLaw" 86 m_Sp_fit.1 ∈ am_tbl := am_in3 185 (by decide +kernel) (by decide +kernel)
theorem ml_Sp_222 : Cond.methodLink "ShakePictures" 222 m_Ft_aimAtTold.1 ∈ am_tbl := am_in3 189 (by decide +kernel) (by decide +kernel)
theorem ml_Ft_71 : Cond.methodLink "ShakePictures$Fitter" 71 m_Bo_lowNow.1 ∈ am_tbl := am_in3 193 (by decide +kernel) (by decide +kernel)
theorem ml_Ft_74 : Cond.methodLink "ShakePictures$Fitter" 74 m_Bo_highNow.1 ∈ am_tbl := am_in3 194 (by decide +kernel) (by decide +kernel)
theorem ml_Sp_225 : Cond.methodLink "ShakePictures" 225 m_Ft_sweep.1 ∈ am_tbl := am_in3 195 (by decide +kernel) (by decide +kernel)
theorem ml_Ft_80 : Cond.methodLink "ShakePictures$Fitter" 80 m_Gr_blocksInUse.1 ∈ am_tbl := am_in3 199 (by decide +kernel) (by decide +kernel)
theorem ml_Ft_84 : Cond.methodLink "ShakePictures$Fitter" 84 m_Gr_cellsOf.1 ∈ am_tbl := am_in3 203 (by decide +kernel) (by decide +kernel)
theorem ml_Ft_90 : Cond.methodLink "ShakePictures$Fitter" 90 m_Ft_improve.1 ∈ am_tbl := am_in3 204 (by decide +kernel) (by decide +kernel)
theorem ml_Ft_93 : Cond.methodLink "ShakePictures$Fitter" 93 m_Ar_fill.1 ∈ am_tbl := am_in3 208 (by decide +kernel) (by decide +kernel)
theorem ml_Ft_102 : Cond.methodLink "ShakePictures$Fitter" 102 m_Ft_gatherMembers.1 ∈ am_tbl := am_in3 209 (by decide +kernel) (by decide +kernel)
theorem ml_Ft_108 : Cond.methodLink "ShakePictures$Fitter" 108 m_Ft_tabulate.1 ∈ am_tbl := am_in3 213 (by decide +kernel) (by decide +kernel)
theorem ml_Ft_129 : Cond.methodLink "ShakePictures$Fitter" 129 m_Ft_measure.1 ∈ am_tbl := am_in3 217 (by decide +kernel) (by decide +kernel)
theorem ml_Ft_133 : Cond.methodLink "ShakePictures$Fitter" 133 m_Ft_isStraight.1 ∈ am_tbl := am_in3 221 (by decide +kernel) (by decide +kernel)
theorem ml_Ft_140 : Cond.methodLink "ShakePictures$Fitter" 140 m_Gr_price.1 ∈ am_tbl := am_in3 225 (by decide +kernel) (by decide +kernel)
theorem ml_Ft_137 : Cond.methodLink "ShakePictures$Fitter" 137 m_Ft_fillLine.1 ∈ am_tbl := am_in3 226 (by decide +kernel) (by decide +kernel)
theorem ml_Ft_112 : Cond.methodLink "ShakePictures$Fitter" 112 m_Ft_addMisfits.1 ∈ am_tbl := am_in3 230 (by decide +kernel) (by decide +kernel)
theorem ml_La_90 : Cond.methodLink "ShakePicturesLaw" 90 m_Sp_span.1 ∈ am_tbl := am_in3 235 (by decide +kernel) (by decide +kernel)
theorem ml_Sp_228 : Cond.methodLink "ShakePictures" 228 m_Ra_gather.1 ∈ am_tbl := am_in3 239 (by decide +kernel) (by decide +kernel)
theorem ml_Ra_40 : Cond.methodLink "ShakePictures$Rays" 40 m_Bo_cellOfEar.1 ∈ am_tbl := am_in4 3 (by decide +kernel) (by decide +kernel)
theorem ml_Ra_44 : Cond.methodLink "ShakePictures$Rays" 44 m_Gr_spread.1 ∈ am_tbl := am_in4 4 (by decide +kernel) (by decide +kernel)
theorem ml_Ra_50 : Cond.methodLink "ShakePictures$Rays" 50 m_Bo_cellOfShake.1 ∈ am_tbl := am_in4 5 (by decide +kernel) (by decide +kernel)
theorem ml_Ra_53 : Cond.methodLink "ShakePictures$Rays" 53 m_Gr_trace.1 ∈ am_tbl := am_in4 6 (by decide +kernel) (by decide +kernel)
theorem ml_Ra_57 : Cond.methodLink "ShakePictures$Rays" 57 m_Gr_countRays.1 ∈ am_tbl := am_in4 7 (by decide +kernel) (by decide +kernel)
theorem ml_Sp_231 : Cond.methodLink "ShakePictures" 231 m_Pr_setBounds.1 ∈ am_tbl := am_in4 11 (by decide +kernel) (by decide +kernel)
theorem ml_Pr_41 : Cond.methodLink "ShakePictures$Press" 41 m_Bo_begunOf.1 ∈ am_tbl := am_in4 15 (by decide +kernel) (by decide +kernel)
theorem ml_Pr_47 : Cond.methodLink "ShakePictures$Press" 47 m_Bo_clockOf.1 ∈ am_tbl := am_in4 16 (by decide +kernel) (by decide +kernel)
theorem ml_Pr_50 : Cond.methodLink "ShakePictures$Press" 50 m_Bo_lowNow.1 ∈ am_tbl := am_in4 17 (by decide +kernel) (by decide +kernel)
theorem ml_Pr_53 : Cond.methodLink "ShakePictures$Press" 53 m_Bo_highNow.1 ∈ am_tbl := am_in4 18 (by decide +kernel) (by decide +kernel)
theorem ml_Sp_234 : Cond.methodLink "ShakePictures" 234 m_Ra_allRows.1 ∈ am_tbl := am_in4 19 (by decide +kernel) (by decide +kernel)
theorem ml_Sp_237 : Cond.methodLink "ShakePictures" 237 m_Pr_quarrels.1 ∈ am_tbl := am_in4 23 (by decide +kernel) (by decide +kernel)
theorem ml_Pr_69 : Cond.methodLink "ShakePictures$Press" 69 m_Ar_fill.1 ∈ am_tbl := am_in4 27 (by decide +kernel) (by decide +kernel)
theorem ml_Pr_79 : Cond.methodLink "ShakePictures$Press" 79 m_Pr_narrow.1 ∈ am_tbl := am_in4 28 (by decide +kernel) (by decide +kernel)
theorem ml_Pr_86 : Cond.methodLink "ShakePictures$Press" 86 m_Pr_weigh.1 ∈ am_tbl := am_in4 32 (by decide +kernel) (by decide +kernel)
theorem ml_Pr_90 : Cond.methodLink "ShakePictures$Press" 90 m_Ma_floorDiv.1 ∈ am_tbl := am_in4 35 (by decide +kernel) (by decide +kernel)
theorem ml_La_94 : Cond.methodLink "ShakePicturesLaw" 94 m_Sp_quarrel.1 ∈ am_tbl := am_in4 38 (by decide +kernel) (by decide +kernel)
theorem ml_Sp_246 : Cond.methodLink "ShakePictures" 246 m_Pr_leastQuarrel.1 ∈ am_tbl := am_in4 42 (by decide +kernel) (by decide +kernel)
theorem ml_Pr_56 : Cond.methodLink "ShakePictures$Press" 56 m_Ra_allRows.1 ∈ am_tbl := am_in4 46 (by decide +kernel) (by decide +kernel)
theorem ml_Pr_60 : Cond.methodLink "ShakePictures$Press" 60 m_Pr_quarrels.1 ∈ am_tbl := am_in4 47 (by decide +kernel) (by decide +kernel)
theorem ml_Pr_64 : Cond.methodLink "ShakePictures$Press" 64 m_In_bitCount.1 ∈ am_tbl := am_in4 48 (by decide +kernel) (by decide +kernel)
theorem ml_Sp_249 : Cond.methodLink "ShakePictures" 249 m_Ra_picksOf.1 ∈ am_tbl := am_in4 49 (by decide +kernel) (by decide +kernel)
theorem ml_La_99 : Cond.methodLink "ShakePicturesLaw" 99 m_Sp_rank.1 ∈ am_tbl := am_in4 53 (by decide +kernel) (by decide +kernel)
theorem ml_Sp_252 : Cond.methodLink "ShakePictures" 252 m_Re_takePicks.1 ∈ am_tbl := am_in4 57 (by decide +kernel) (by decide +kernel)
theorem ml_Re_37 : Cond.methodLink "ShakePictures$Resolver" 37 m_Ba_clear.1 ∈ am_tbl := am_in4 61 (by decide +kernel) (by decide +kernel)
theorem ml_Re_49 : Cond.methodLink "ShakePictures$Resolver" 49 m_Ba_add.1 ∈ am_tbl := am_in4 65 (by decide +kernel) (by decide +kernel)
theorem ml_Ba_34 : Cond.methodLink "ShakePictures$Basis" 34 m_Ba_clearColumn.1 ∈ am_tbl := am_in4 69 (by decide +kernel) (by decide +kernel)
theorem ml_Ba_44 : Cond.methodLink "ShakePictures$Basis" 44 m_Ma_floorMod.1 ∈ am_tbl := am_in4 73 (by decide +kernel) (by decide +kernel)
theorem ml_Ba_38 : Cond.methodLink "ShakePictures$Basis" 38 m_Ba_firstColumn.1 ∈ am_tbl := am_in4 76 (by decide +kernel) (by decide +kernel)
theorem ml_Ba_28 : Cond.methodLink "ShakePictures$Basis" 28 arraycopyName ∈ am_tbl := am_in4 80 (by decide +kernel) (by decide +kernel)
theorem ml_La_103 : Cond.methodLink "ShakePicturesLaw" 103 m_Sp_resolved.1 ∈ am_tbl := am_in4 83 (by decide +kernel) (by decide +kernel)
theorem ml_Sp_264 : Cond.methodLink "ShakePictures" 264 m_Ba_isResolved.1 ∈ am_tbl := am_in4 87 (by decide +kernel) (by decide +kernel)
theorem ml_Sp_267 : Cond.methodLink "ShakePictures" 267 m_Ra_isTouched.1 ∈ am_tbl := am_in4 91 (by decide +kernel) (by decide +kernel)
theorem ml_La_107 : Cond.methodLink "ShakePicturesLaw" 107 m_Sp_best.1 ∈ am_tbl := am_in4 95 (by decide +kernel) (by decide +kernel)
theorem ml_Sp_270 : Cond.methodLink "ShakePictures" 270 m_Re_findBestEar.1 ∈ am_tbl := am_in4 99 (by decide +kernel) (by decide +kernel)
theorem ml_Re_64 : Cond.methodLink "ShakePictures$Resolver" 64 m_Re_resolvedWith.1 ∈ am_tbl := am_in4 103 (by decide +kernel) (by decide +kernel)
theorem ml_Re_68 : Cond.methodLink "ShakePictures$Resolver" 68 m_Ba_copyFrom.1 ∈ am_tbl := am_in4 107 (by decide +kernel) (by decide +kernel)
theorem ml_Re_72 : Cond.methodLink "ShakePictures$Resolver" 72 m_Gr_spread.1 ∈ am_tbl := am_in4 111 (by decide +kernel) (by decide +kernel)
theorem ml_Re_84 : Cond.methodLink "ShakePictures$Resolver" 84 m_Gr_trace.1 ∈ am_tbl := am_in4 112 (by decide +kernel) (by decide +kernel)
theorem ml_Re_88 : Cond.methodLink "ShakePictures$Resolver" 88 m_Gr_countRays.1 ∈ am_tbl := am_in4 113 (by decide +kernel) (by decide +kernel)
theorem ml_Re_91 : Cond.methodLink "ShakePictures$Resolver" 91 m_Ba_countResolved.1 ∈ am_tbl := am_in4 114 (by decide +kernel) (by decide +kernel)
theorem ml_Ba_50 : Cond.methodLink "ShakePictures$Basis" 50 m_Ba_isResolved.1 ∈ am_tbl := am_in4 118 (by decide +kernel) (by decide +kernel)
theorem ml_La_111 : Cond.methodLink "ShakePicturesLaw" 111 m_Sp_heap.1 ∈ am_tbl := am_in4 119 (by decide +kernel) (by decide +kernel)
theorem ml_Sp_279 : Cond.methodLink "ShakePictures" 279 m_Fi_heapUp.1 ∈ am_tbl := am_in4 123 (by decide +kernel) (by decide +kernel)
theorem ml_Fi_26 : Cond.methodLink "ShakePictures$Finder" 26 m_Fi_gatherBegun.1 ∈ am_tbl := am_in4 127 (by decide +kernel) (by decide +kernel)
theorem ml_Fi_44 : Cond.methodLink "ShakePictures$Finder" 44 m_Gr_spread.1 ∈ am_tbl := am_in4 131 (by decide +kernel) (by decide +kernel)
theorem ml_Fi_63 : Cond.methodLink "ShakePictures$Finder" 63 m_Bo_cellOfEar.1 ∈ am_tbl := am_in4 132 (by decide +kernel) (by decide +kernel)
theorem ml_Fi_66 : Cond.methodLink "ShakePictures$Finder" 66 m_Bo_clockOf.1 ∈ am_tbl := am_in4 133 (by decide +kernel) (by decide +kernel)
theorem ml_Fi_69 : Cond.methodLink "ShakePictures$Finder" 69 m_Fi_addSpan.1 ∈ am_tbl := am_in4 134 (by decide +kernel) (by decide +kernel)
theorem ml_Fi_72 : Cond.methodLink "ShakePictures$Finder" 72 m_Bo_lowNow.1 ∈ am_tbl := am_in4 138 (by decide +kernel) (by decide +kernel)
theorem ml_Fi_75 : Cond.methodLink "ShakePictures$Finder" 75 m_Bo_highNow.1 ∈ am_tbl := am_in4 139 (by decide +kernel) (by decide +kernel)
theorem ml_Fi_34 : Cond.methodLink "ShakePictures$Finder" 34 m_Fi_countFitting.1 ∈ am_tbl := am_in4 140 (by decide +kernel) (by decide +kernel)
theorem ml_La_115 : Cond.methodLink "ShakePicturesLaw" 115 m_Sp_move.1 ∈ am_tbl := am_in4 144 (by decide +kernel) (by decide +kernel)
theorem ml_Sp_288 : Cond.methodLink "ShakePictures" 288 m_Bo_hasPicks.1 ∈ am_tbl := am_in4 148 (by decide +kernel) (by decide +kernel)
theorem ml_Sp_291 : Cond.methodLink "ShakePictures" 291 m_Fi_moveShake.1 ∈ am_tbl := am_in4 152 (by decide +kernel) (by decide +kernel)
theorem ml_Fi_81 : Cond.methodLink "ShakePictures$Finder" 81 m_Fi_heapUp.1 ∈ am_tbl := am_in4 156 (by decide +kernel) (by decide +kernel)
theorem ml_Fi_84 : Cond.methodLink "ShakePictures$Finder" 84 m_Bo_placeShake.1 ∈ am_tbl := am_in4 157 (by decide +kernel) (by decide +kernel)
theorem ml_La_119 : Cond.methodLink "ShakePicturesLaw" 119 m_Sp_off.1 ∈ am_tbl := am_in4 158 (by decide +kernel) (by decide +kernel)
theorem ml_Sp_294 : Cond.methodLink "ShakePictures" 294 m_Fi_clockOff.1 ∈ am_tbl := am_in4 162 (by decide +kernel) (by decide +kernel)
theorem ml_Fi_91 : Cond.methodLink "ShakePictures$Finder" 91 m_Bo_cellOfShake.1 ∈ am_tbl := am_in4 166 (by decide +kernel) (by decide +kernel)
theorem ml_Fi_94 : Cond.methodLink "ShakePictures$Finder" 94 m_Bo_begunOf.1 ∈ am_tbl := am_in4 167 (by decide +kernel) (by decide +kernel)
theorem ml_La_123 : Cond.methodLink "ShakePicturesLaw" 123 m_Sp_board.1 ∈ am_tbl := am_in4 168 (by decide +kernel) (by decide +kernel)
theorem ml_Sp_297 : Cond.methodLink "ShakePictures" 297 m_Me_keep.1 ∈ am_tbl := am_in4 172 (by decide +kernel) (by decide +kernel)
theorem ml_Me_35 : Cond.methodLink "ShakePictures$Memory" 35 arraycopyName ∈ am_tbl := am_in4 176 (by decide +kernel) (by decide +kernel)
theorem ml_Sp_300 : Cond.methodLink "ShakePictures" 300 m_Gr_paintBoard.1 ∈ am_tbl := am_in4 177 (by decide +kernel) (by decide +kernel)
theorem ml_Gr_71 : Cond.methodLink "ShakePictures$Ground" 71 m_Gr_onBoard.1 ∈ am_tbl := am_in4 181 (by decide +kernel) (by decide +kernel)
theorem ml_Sp_303 : Cond.methodLink "ShakePictures" 303 m_Ft_aimAtForetold.1 ∈ am_tbl := am_in4 184 (by decide +kernel) (by decide +kernel)
theorem ml_Ft_77 : Cond.methodLink "ShakePictures$Fitter" 77 m_Ft_foretold.1 ∈ am_tbl := am_in4 188 (by decide +kernel) (by decide +kernel)
theorem ml_Sp_306 : Cond.methodLink "ShakePictures" 306 m_Ar_fill.1 ∈ am_tbl := am_in4 189 (by decide +kernel) (by decide +kernel)
theorem ml_Sp_312 : Cond.methodLink "ShakePictures" 312 m_Gr_countAsOnBoard.1 ∈ am_tbl := am_in4 190 (by decide +kernel) (by decide +kernel)
theorem ml_Sp_315 : Cond.methodLink "ShakePictures" 315 m_Me_bringBack.1 ∈ am_tbl := am_in4 194 (by decide +kernel) (by decide +kernel)
theorem ml_La_129 : Cond.methodLink "ShakePicturesLaw" 129 m_Sp_write.1 ∈ am_tbl := am_in4 198 (by decide +kernel) (by decide +kernel)
theorem ml_Sp_321 : Cond.methodLink "ShakePictures" 321 m_Sc_append.1 ∈ am_tbl := am_in4 202 (by decide +kernel) (by decide +kernel)
theorem ml_La_134 : Cond.methodLink "ShakePicturesLaw" 134 m_Sp_erase.1 ∈ am_tbl := am_in4 207 (by decide +kernel) (by decide +kernel)
theorem ml_La_138 : Cond.methodLink "ShakePicturesLaw" 138 m_Sp_fault.1 ∈ am_tbl := am_in4 211 (by decide +kernel) (by decide +kernel)
theorem ml_Sp_325 : Cond.methodLink "ShakePictures" 325 m_Sc_read.1 ∈ am_tbl := am_in4 215 (by decide +kernel) (by decide +kernel)
theorem ml_Sc_44 : Cond.methodLink "ShakePictures$Script" 44 m_Sc_advance.1 ∈ am_tbl := am_in4 219 (by decide +kernel) (by decide +kernel)
theorem ml_Sc_120 : Cond.methodLink "ShakePictures$Script" 120 m_Sc_sortAt.1 ∈ am_tbl := am_in4 223 (by decide +kernel) (by decide +kernel)
theorem ml_Sc_124 : Cond.methodLink "ShakePictures$Script" 124 m_Sc_numberHere.1 ∈ am_tbl := am_in4 227 (by decide +kernel) (by decide +kernel)
theorem ml_Sc_47 : Cond.methodLink "ShakePictures$Script" 47 m_Sc_readStatement.1 ∈ am_tbl := am_in4 231 (by decide +kernel) (by decide +kernel)
theorem ml_Sc_57 : Cond.methodLink "ShakePictures$Script" 57 m_Sc_verbHere.1 ∈ am_tbl := am_in4 235 (by decide +kernel) (by decide +kernel)
theorem ml_Sc_84 : Cond.methodLink "ShakePictures$Script" 84 m_Sc_wordOf.1 ∈ am_tbl := am_in4 239 (by decide +kernel) (by decide +kernel)
theorem ml_Sc_88 : Cond.methodLink "ShakePictures$Script" 88 m_Sc_isWord.1 ∈ am_tbl := am_in5 7 (by decide +kernel) (by decide +kernel)
theorem ml_Sc_112 : Cond.methodLink "ShakePictures$Script" 112 m_St_length.1 ∈ am_tbl := am_in5 11 (by decide +kernel) (by decide +kernel)
theorem ml_St_335 : Cond.methodLink "java/lang/String" 335 m_St_coder.1 ∈ am_tbl := am_in5 15 (by decide +kernel) (by decide +kernel)
theorem ml_Sc_116 : Cond.methodLink "ShakePictures$Script" 116 m_St_charAt.1 ∈ am_tbl := am_in5 21 (by decide +kernel) (by decide +kernel)
theorem ml_St_492 : Cond.methodLink "java/lang/String" 492 m_St_isLatin1.1 ∈ am_tbl := am_in5 25 (by decide +kernel) (by decide +kernel)
theorem ml_St_495 : Cond.methodLink "java/lang/String" 495 m_L1_charAt.1 ∈ am_tbl := am_in5 29 (by decide +kernel) (by decide +kernel)
theorem ml_L1_9 : Cond.methodLink "java/lang/StringLatin1" 9 m_St_checkIndex.1 ∈ am_tbl := am_in5 32 (by decide +kernel) (by decide +kernel)
theorem ml_St_1059 : Cond.methodLink "java/lang/String" 1059 m_Pc_checkIndex.1 ∈ am_tbl := am_in5 37 (by decide +kernel) (by decide +kernel)
theorem ml_Sc_61 : Cond.methodLink "ShakePictures$Script" 61 m_Sc_readFirst.1 ∈ am_tbl := am_in5 59 (by decide +kernel) (by decide +kernel)
theorem ml_Sc_105 : Cond.methodLink "ShakePictures$Script" 105 m_Sc_passNumber.1 ∈ am_tbl := am_in5 63 (by decide +kernel) (by decide +kernel)
theorem ml_Sc_65 : Cond.methodLink "ShakePictures$Script" 65 m_Sc_readSecond.1 ∈ am_tbl := am_in5 67 (by decide +kernel) (by decide +kernel)
theorem ml_Sc_81 : Cond.methodLink "ShakePictures$Script" 81 m_Sc_readCells.1 ∈ am_tbl := am_in5 71 (by decide +kernel) (by decide +kernel)
theorem ml_La_142 : Cond.methodLink "ShakePicturesLaw" 142 m_Sp_run.1 ∈ am_tbl := am_in5 78 (by decide +kernel) (by decide +kernel)
theorem ml_Sp_340 : Cond.methodLink "ShakePictures" 340 m_Sp_obey.1 ∈ am_tbl := am_in5 82 (by decide +kernel) (by decide +kernel)
theorem ml_La_146 : Cond.methodLink "ShakePicturesLaw" 146 m_Sp_count.1 ∈ am_tbl := am_in5 86 (by decide +kernel) (by decide +kernel)
theorem ml_Sp_343 : Cond.methodLink "ShakePictures" 343 m_Gr_blocksInUse.1 ∈ am_tbl := am_in5 90 (by decide +kernel) (by decide +kernel)
theorem ml_La_12 : Cond.methodLink "ShakePicturesLaw" 12 m_Mo_init.1 ∈ am_tbl := am_in5 93 (by decide +kernel) (by decide +kernel)
theorem ml_Mo_1 : Cond.methodLink "ShakePicturesModel" 1 objectInit ∈ am_tbl := am_in5 96 (by decide +kernel) (by decide +kernel)
theorem ml_La_17 : Cond.methodLink "ShakePicturesLaw" 17 m_Mo_ground.1 ∈ am_tbl := am_in6 11 (by decide +kernel) (by decide +kernel)
theorem ml_Mo_122 : Cond.methodLink "ShakePicturesModel" 122 m_Mo_in.1 ∈ am_tbl := am_in6 15 (by decide +kernel) (by decide +kernel)
theorem ml_Mo_118 : Cond.methodLink "ShakePicturesModel" 118 m_Mo_cells.1 ∈ am_tbl := am_in6 18 (by decide +kernel) (by decide +kernel)
theorem ml_La_22 : Cond.methodLink "ShakePicturesLaw" 22 m_Mo_ratio.1 ∈ am_tbl := am_in6 22 (by decide +kernel) (by decide +kernel)
theorem ml_La_26 : Cond.methodLink "ShakePicturesLaw" 26 m_Mo_slow.1 ∈ am_tbl := am_in6 26 (by decide +kernel) (by decide +kernel)
theorem ml_Mo_138 : Cond.methodLink "ShakePicturesModel" 138 m_Mo_isBlock.1 ∈ am_tbl := am_in6 30 (by decide +kernel) (by decide +kernel)
theorem ml_La_30 : Cond.methodLink "ShakePicturesLaw" 30 m_Mo_split.1 ∈ am_tbl := am_in6 33 (by decide +kernel) (by decide +kernel)
theorem ml_Mo_142 : Cond.methodLink "ShakePicturesModel" 142 m_Mo_sizeOf.1 ∈ am_tbl := am_in6 37 (by decide +kernel) (by decide +kernel)
theorem ml_La_34 : Cond.methodLink "ShakePicturesLaw" 34 m_Mo_join.1 ∈ am_tbl := am_in6 41 (by decide +kernel) (by decide +kernel)
theorem ml_La_38 : Cond.methodLink "ShakePicturesLaw" 38 m_Mo_at.1 ∈ am_tbl := am_in6 45 (by decide +kernel) (by decide +kernel)
theorem ml_Mo_146 : Cond.methodLink "ShakePicturesModel" 146 m_Mo_isCell.1 ∈ am_tbl := am_in6 49 (by decide +kernel) (by decide +kernel)
theorem ml_La_43 : Cond.methodLink "ShakePicturesLaw" 43 m_Mo_time.1 ∈ am_tbl := am_in6 53 (by decide +kernel) (by decide +kernel)
theorem ml_Mo_154 : Cond.methodLink "ShakePicturesModel" 154 m_Mo_isKind.1 ∈ am_tbl := am_in6 57 (by decide +kernel) (by decide +kernel)
theorem ml_Mo_157 : Cond.methodLink "ShakePicturesModel" 157 m_Mo_findTimes.1 ∈ am_tbl := am_in6 60 (by decide +kernel) (by decide +kernel)
theorem ml_Mo_150 : Cond.methodLink "ShakePicturesModel" 150 m_Mo_slowAt.1 ∈ am_tbl := am_in6 65 (by decide +kernel) (by decide +kernel)
theorem ml_La_48 : Cond.methodLink "ShakePicturesLaw" 48 m_Mo_way.1 ∈ am_tbl := am_in6 69 (by decide +kernel) (by decide +kernel)
theorem ml_Mo_165 : Cond.methodLink "ShakePicturesModel" 165 m_Mo_nextOf.1 ∈ am_tbl := am_in6 73 (by decide +kernel) (by decide +kernel)
theorem ml_Mo_161 : Cond.methodLink "ShakePicturesModel" 161 m_Mo_areBeside.1 ∈ am_tbl := am_in6 77 (by decide +kernel) (by decide +kernel)
theorem ml_La_52 : Cond.methodLink "ShakePicturesLaw" 52 m_Mo_ear.1 ∈ am_tbl := am_in6 81 (by decide +kernel) (by decide +kernel)
theorem ml_La_56 : Cond.methodLink "ShakePicturesLaw" 56 m_Mo_clock.1 ∈ am_tbl := am_in6 85 (by decide +kernel) (by decide +kernel)
theorem ml_Mo_168 : Cond.methodLink "ShakePicturesModel" 168 m_Mo_isEar.1 ∈ am_tbl := am_in6 89 (by decide +kernel) (by decide +kernel)
theorem ml_La_60 : Cond.methodLink "ShakePicturesLaw" 60 m_Mo_shake.1 ∈ am_tbl := am_in6 93 (by decide +kernel) (by decide +kernel)
theorem ml_La_64 : Cond.methodLink "ShakePicturesLaw" 64 m_Mo_put.1 ∈ am_tbl := am_in6 97 (by decide +kernel) (by decide +kernel)
theorem ml_Mo_171 : Cond.methodLink "ShakePicturesModel" 171 m_Mo_isShake.1 ∈ am_tbl := am_in6 101 (by decide +kernel) (by decide +kernel)
theorem ml_La_69 : Cond.methodLink "ShakePicturesLaw" 69 m_Mo_pick.1 ∈ am_tbl := am_in6 105 (by decide +kernel) (by decide +kernel)
theorem ml_Mo_177 : Cond.methodLink "ShakePicturesModel" 177 m_Mo_isSpan.1 ∈ am_tbl := am_in6 109 (by decide +kernel) (by decide +kernel)
theorem ml_Mo_180 : Cond.methodLink "ShakePicturesModel" 180 m_Mo_addTelling.1 ∈ am_tbl := am_in6 112 (by decide +kernel) (by decide +kernel)
theorem ml_La_73 : Cond.methodLink "ShakePicturesLaw" 73 m_Mo_tell.1 ∈ am_tbl := am_in6 116 (by decide +kernel) (by decide +kernel)
theorem ml_Mo_184 : Cond.methodLink "ShakePicturesModel" 184 m_Mo_isPick.1 ∈ am_tbl := am_in6 120 (by decide +kernel) (by decide +kernel)
theorem ml_La_77 : Cond.methodLink "ShakePicturesLaw" 77 m_Mo_days.1 ∈ am_tbl := am_in6 124 (by decide +kernel) (by decide +kernel)
theorem ml_La_81 : Cond.methodLink "ShakePicturesLaw" 81 m_Mo_of.1 ∈ am_tbl := am_in6 128 (by decide +kernel) (by decide +kernel)
theorem ml_Mo_196 : Cond.methodLink "ShakePicturesModel" 196 m_Mo_findSpans.1 ∈ am_tbl := am_in6 132 (by decide +kernel) (by decide +kernel)
theorem ml_Mo_187 : Cond.methodLink "ShakePicturesModel" 187 m_Mo_findShakeTimes.1 ∈ am_tbl := am_in6 136 (by decide +kernel) (by decide +kernel)
theorem ml_Mo_190 : Cond.methodLink "ShakePicturesModel" 190 m_Mo_foretold.1 ∈ am_tbl := am_in6 140 (by decide +kernel) (by decide +kernel)
theorem ml_Mo_193 : Cond.methodLink "ShakePicturesModel" 193 m_Mo_offOf.1 ∈ am_tbl := am_in6 144 (by decide +kernel) (by decide +kernel)
theorem ml_La_85 : Cond.methodLink "ShakePicturesLaw" 85 m_Mo_misfit.1 ∈ am_tbl := am_in6 148 (by decide +kernel) (by decide +kernel)
theorem ml_Mo_200 : Cond.methodLink "ShakePicturesModel" 200 m_Mo_misfitNow.1 ∈ am_tbl := am_in6 152 (by decide +kernel) (by decide +kernel)
theorem ml_La_89 : Cond.methodLink "ShakePicturesLaw" 89 m_Mo_fit.1 ∈ am_tbl := am_in6 156 (by decide +kernel) (by decide +kernel)
theorem ml_Mo_206 : Cond.methodLink "ShakePicturesModel" 206 m_Mo_fitAll.1 ∈ am_tbl := am_in6 160 (by decide +kernel) (by decide +kernel)
theorem ml_Mo_203 : Cond.methodLink "ShakePicturesModel" 203 m_Mo_fitBlock.1 ∈ am_tbl := am_in6 164 (by decide +kernel) (by decide +kernel)
theorem ml_La_93 : Cond.methodLink "ShakePicturesLaw" 93 m_Mo_span.1 ∈ am_tbl := am_in6 168 (by decide +kernel) (by decide +kernel)
theorem ml_Mo_219 : Cond.methodLink "ShakePicturesModel" 219 m_Mo_findRays.1 ∈ am_tbl := am_in6 172 (by decide +kernel) (by decide +kernel)
theorem ml_Mo_209 : Cond.methodLink "ShakePicturesModel" 209 m_Mo_layRays.1 ∈ am_tbl := am_in6 176 (by decide +kernel) (by decide +kernel)
theorem ml_Mo_222 : Cond.methodLink "ShakePicturesModel" 222 m_Mo_press.1 ∈ am_tbl := am_in6 180 (by decide +kernel) (by decide +kernel)
theorem ml_Mo_212 : Cond.methodLink "ShakePicturesModel" 212 m_Mo_others.1 ∈ am_tbl := am_in6 184 (by decide +kernel) (by decide +kernel)
theorem ml_Mo_216 : Cond.methodLink "ShakePicturesModel" 216 m_Mo_floorOf.1 ∈ am_tbl := am_in6 188 (by decide +kernel) (by decide +kernel)
theorem ml_La_98 : Cond.methodLink "ShakePicturesLaw" 98 m_Mo_quarrel.1 ∈ am_tbl := am_in6 191 (by decide +kernel) (by decide +kernel)
theorem ml_Mo_225 : Cond.methodLink "ShakePicturesModel" 225 m_Mo_bits.1 ∈ am_tbl := am_in6 195 (by decide +kernel) (by decide +kernel)
theorem ml_La_102 : Cond.methodLink "ShakePicturesLaw" 102 m_Mo_rank.1 ∈ am_tbl := am_in6 198 (by decide +kernel) (by decide +kernel)
theorem ml_Mo_238 : Cond.methodLink "ShakePicturesModel" 238 m_Mo_layRows.1 ∈ am_tbl := am_in6 202 (by decide +kernel) (by decide +kernel)
theorem ml_Mo_241 : Cond.methodLink "ShakePicturesModel" 241 m_Mo_rankOf.1 ∈ am_tbl := am_in6 206 (by decide +kernel) (by decide +kernel)
theorem ml_Mo_234 : Cond.methodLink "ShakePicturesModel" 234 m_Mo_inverse.1 ∈ am_tbl := am_in6 210 (by decide +kernel) (by decide +kernel)
theorem ml_La_106 : Cond.methodLink "ShakePicturesLaw" 106 m_Mo_resolved.1 ∈ am_tbl := am_in6 216 (by decide +kernel) (by decide +kernel)
theorem ml_Mo_250 : Cond.methodLink "ShakePicturesModel" 250 m_Mo_isResolved.1 ∈ am_tbl := am_in6 220 (by decide +kernel) (by decide +kernel)
theorem ml_Mo_247 : Cond.methodLink "ShakePicturesModel" 247 m_Mo_layAll.1 ∈ am_tbl := am_in6 224 (by decide +kernel) (by decide +kernel)
theorem ml_La_110 : Cond.methodLink "ShakePicturesLaw" 110 m_Mo_best.1 ∈ am_tbl := am_in6 228 (by decide +kernel) (by decide +kernel)
theorem ml_Mo_253 : Cond.methodLink "ShakePicturesModel" 253 m_Mo_resolvedWith.1 ∈ am_tbl := am_in6 232 (by decide +kernel) (by decide +kernel)
theorem ml_La_114 : Cond.methodLink "ShakePicturesLaw" 114 m_Mo_heap.1 ∈ am_tbl := am_in6 236 (by decide +kernel) (by decide +kernel)
theorem ml_Mo_262 : Cond.methodLink "ShakePicturesModel" 262 m_Mo_findHeap.1 ∈ am_tbl := am_in7 0 (by decide +kernel) (by decide +kernel)
theorem ml_La_118 : Cond.methodLink "ShakePicturesLaw" 118 m_Mo_move.1 ∈ am_tbl := am_in7 4 (by decide +kernel) (by decide +kernel)
theorem ml_La_122 : Cond.methodLink "ShakePicturesLaw" 122 m_Mo_off.1 ∈ am_tbl := am_in7 8 (by decide +kernel) (by decide +kernel)
theorem ml_La_126 : Cond.methodLink "ShakePicturesLaw" 126 m_Mo_board.1 ∈ am_tbl := am_in7 12 (by decide +kernel) (by decide +kernel)
theorem ml_La_133 : Cond.methodLink "ShakePicturesLaw" 133 m_Mo_write.1 ∈ am_tbl := am_in7 16 (by decide +kernel) (by decide +kernel)
theorem ml_La_137 : Cond.methodLink "ShakePicturesLaw" 137 m_Mo_erase.1 ∈ am_tbl := am_in7 21 (by decide +kernel) (by decide +kernel)
theorem ml_La_141 : Cond.methodLink "ShakePicturesLaw" 141 m_Mo_fault.1 ∈ am_tbl := am_in7 25 (by decide +kernel) (by decide +kernel)
theorem ml_Mo_341 : Cond.methodLink "ShakePicturesModel" 341 m_Mo_isRead.1 ∈ am_tbl := am_in7 29 (by decide +kernel) (by decide +kernel)
theorem ml_Mo_304 : Cond.methodLink "ShakePicturesModel" 304 m_Mo_nextToken.1 ∈ am_tbl := am_in7 33 (by decide +kernel) (by decide +kernel)
theorem ml_Mo_338 : Cond.methodLink "ShakePicturesModel" 338 m_Mo_isStatement.1 ∈ am_tbl := am_in7 43 (by decide +kernel) (by decide +kernel)
theorem ml_Mo_320 : Cond.methodLink "ShakePicturesModel" 320 m_Mo_isTwo.1 ∈ am_tbl := am_in7 48 (by decide +kernel) (by decide +kernel)
theorem ml_Mo_307 : Cond.methodLink "ShakePicturesModel" 307 m_Mo_isNumber.1 ∈ am_tbl := am_in7 52 (by decide +kernel) (by decide +kernel)
theorem ml_Mo_310 : Cond.methodLink "ShakePicturesModel" 310 m_Mo_fails.1 ∈ am_tbl := am_in7 56 (by decide +kernel) (by decide +kernel)
theorem ml_Mo_326 : Cond.methodLink "ShakePicturesModel" 326 m_Mo_isFit.1 ∈ am_tbl := am_in7 61 (by decide +kernel) (by decide +kernel)
theorem ml_Mo_335 : Cond.methodLink "ShakePicturesModel" 335 m_Mo_isSplit.1 ∈ am_tbl := am_in7 68 (by decide +kernel) (by decide +kernel)
theorem ml_La_145 : Cond.methodLink "ShakePicturesLaw" 145 m_Mo_run.1 ∈ am_tbl := am_in7 74 (by decide +kernel) (by decide +kernel)
theorem ml_Mo_350 : Cond.methodLink "ShakePicturesModel" 350 m_Mo_isDone.1 ∈ am_tbl := am_in7 78 (by decide +kernel) (by decide +kernel)
theorem ml_Mo_344 : Cond.methodLink "ShakePicturesModel" 344 m_Mo_fit.1 ∈ am_tbl := am_in7 82 (by decide +kernel) (by decide +kernel)
theorem ml_Mo_347 : Cond.methodLink "ShakePicturesModel" 347 m_Mo_split.1 ∈ am_tbl := am_in7 83 (by decide +kernel) (by decide +kernel)
theorem ml_La_149 : Cond.methodLink "ShakePicturesLaw" 149 m_Mo_count.1 ∈ am_tbl := am_in7 84 (by decide +kernel) (by decide +kernel)
theorem mo_cpy : Cond.native arraycopyName ∈ am_tbl ∧ Cond.static arraycopyName ∈ am_tbl ∧ Cond.initialized "java/lang/System" ∈ am_tbl := ⟨am_in4 82 (by decide +kernel) (by decide +kernel), am_in4 81 (by decide +kernel) (by decide +kernel), am_in1 16 (by decide +kernel) (by decide +kernel)⟩
