/-! printed by my own program: the methods, what the tables say of them, of their calls and fields -/
theorem mm {w : Cond} (i : Nat) (h : lw_tbl[i]? = some w) (hg : goodWord w = true) : w ∈ mTb := List.mem_filter.mpr ⟨List.mem_of_getElem? h, hg⟩
abbrev me_fn_init : mMe := (⟨"FountainNet", "<init>", "()V"⟩, prog_1_method_1_code, 1, none)
abbrev me_ga_init : mMe := (⟨"FountainNet$Garden", "<init>", "()V"⟩, prog_2_method_1_code, 1, none)
abbrev me_al_init : mMe := (⟨"java/util/ArrayList", "<init>", "()V"⟩, prog_20_method_2_code, 1, none)
abbrev me_ab_init : mMe := (⟨"java/util/AbstractList", "<init>", "()V"⟩, prog_19_method_1_code, 1, none)
abbrev me_ac_init : mMe := (⟨"java/util/AbstractCollection", "<init>", "()V"⟩, prog_18_method_1_code, 1, none)
abbrev me_sr_init : mMe := (⟨"FountainNet$Stroll", "<init>", "(LFountainNet$Garden;Ljava/util/ArrayList;)V"⟩, prog_6_method_1_code, 3, none)
abbrev me_tl_init : mMe := (⟨"FountainNet$TaskList", "<init>", "(LFountainNet$Garden;Ljava/util/ArrayList;)V"⟩, prog_8_method_1_code, 3, none)
abbrev me_lk_init : mMe := (⟨"FountainNet$LeakSearch", "<init>", "(LFountainNet$Garden;)V"⟩, prog_5_method_1_code, 2, none)
abbrev me_fn_tank : mMe := (⟨"FountainNet", "tank", "(IIII)I"⟩, prog_1_method_2_code, 6, some .int)
abbrev me_fn_refuse : mMe := (⟨"FountainNet", "refuse", "(I)I"⟩, prog_1_method_35_code, 3, some .int)
abbrev me_al_size : mMe := (⟨"java/util/ArrayList", "size", "()I"⟩, prog_20_method_8_code, 1, some .int)
abbrev me_tk_init : mMe := (⟨"FountainNet$Tank", "<init>", "(IIIII)V"⟩, prog_7_method_1_code, 6, none)
abbrev me_al_add : mMe := (⟨"java/util/ArrayList", "add", "(Ljava/lang/Object;)Z"⟩, prog_20_method_25_code, 2, some .boolean)
abbrev me_al_add2 : mMe := (⟨"java/util/ArrayList", "add", "(Ljava/lang/Object;[Ljava/lang/Object;I)V"⟩, prog_20_method_24_code, 4, none)
abbrev me_al_grow : mMe := (⟨"java/util/ArrayList", "grow", "()[Ljava/lang/Object;"⟩, prog_20_method_7_code, 1, some (.array (.object "java/lang/Object")))
abbrev me_al_grow2 : mMe := (⟨"java/util/ArrayList", "grow", "(I)[Ljava/lang/Object;"⟩, prog_20_method_6_code, 4, some (.array (.object "java/lang/Object")))
abbrev me_as_newLength : mMe := (⟨"jdk/internal/util/ArraysSupport", "newLength", "(III)I"⟩, prog_27_method_27_code, 4, some .int)
abbrev me_ar_copyOf : mMe := (⟨"java/util/Arrays", "copyOf", "([Ljava/lang/Object;I)[Ljava/lang/Object;"⟩, prog_21_method_119_code, 2, some (.array (.object "java/lang/Object")))
abbrev me_ar_copyOf2 : mMe := (⟨"java/util/Arrays", "copyOf", "([Ljava/lang/Object;ILjava/lang/Class;)[Ljava/lang/Object;"⟩, prog_21_method_120_code, 4, some (.array (.object "java/lang/Object")))
abbrev me_fn_set : mMe := (⟨"FountainNet", "set", "(III)I"⟩, prog_1_method_3_code, 5, some .int)
abbrev me_ga_tankAt : mMe := (⟨"FountainNet$Garden", "tankAt", "(I)LFountainNet$Tank;"⟩, prog_2_method_2_code, 2, some (.object "FountainNet$Tank"))
abbrev me_al_get : mMe := (⟨"java/util/ArrayList", "get", "(I)Ljava/lang/Object;"⟩, prog_20_method_20_code, 2, some (.object "java/lang/Object"))
abbrev me_os_checkIndex : mMe := (⟨"java/util/Objects", "checkIndex", "(II)I"⟩, prog_24_method_17_code, 2, some .int)
abbrev me_pr_checkIndex : mMe := (⟨"jdk/internal/util/Preconditions", "checkIndex", "(IILjava/util/function/BiFunction;)I"⟩, prog_28_method_11_code, 3, some .int)
abbrev me_al_elementData : mMe := (⟨"java/util/ArrayList", "elementData", "(I)Ljava/lang/Object;"⟩, prog_20_method_18_code, 2, some (.object "java/lang/Object"))
abbrev me_tk_capacity : mMe := (⟨"FountainNet$Tank", "capacity", "()I"⟩, prog_7_method_2_code, 1, some .int)
abbrev me_tk_changeSpring : mMe := (⟨"FountainNet$Tank", "changeSpring", "(I)I"⟩, prog_7_method_4_code, 3, some .int)
abbrev me_tk_changeWater : mMe := (⟨"FountainNet$Tank", "changeWater", "(I)I"⟩, prog_7_method_5_code, 3, some .int)
abbrev me_fn_joint : mMe := (⟨"FountainNet", "joint", "(ZIIII)I"⟩, prog_1_method_4_code, 9, some .int)
abbrev me_ga_jointAt : mMe := (⟨"FountainNet$Garden", "jointAt", "(I)LFountainNet$Joint;"⟩, prog_2_method_3_code, 2, some (.object "FountainNet$Joint"))
abbrev me_fn_feederOf : mMe := (⟨"FountainNet", "feederOf", "(LFountainNet$Joint;)LFountainNet$Tank;"⟩, prog_1_method_37_code, 1, some (.object "FountainNet$Tank"))
abbrev me_jn_init : mMe := (⟨"FountainNet$Joint", "<init>", "(ILFountainNet$Tank;LFountainNet$Joint;III)V"⟩, prog_4_method_1_code, 7, none)
abbrev me_fn_jet : mMe := (⟨"FountainNet", "jet", "(II)I"⟩, prog_1_method_5_code, 6, some .int)
abbrev me_je_init : mMe := (⟨"FountainNet$Jet", "<init>", "(ILFountainNet$Joint;I)V"⟩, prog_3_method_1_code, 4, none)
abbrev me_fn_play : mMe := (⟨"FountainNet", "play", "(IZ)I"⟩, prog_1_method_6_code, 4, some .int)
abbrev me_ga_jetAt : mMe := (⟨"FountainNet$Garden", "jetAt", "(I)LFountainNet$Jet;"⟩, prog_2_method_4_code, 2, some (.object "FountainNet$Jet"))
abbrev me_je_isIn : mMe := (⟨"FountainNet$Jet", "isIn", "(I)Z"⟩, prog_3_method_2_code, 2, some .boolean)
abbrev me_fn_pipe : mMe := (⟨"FountainNet", "pipe", "(II)I"⟩, prog_1_method_7_code, 5, some .int)
abbrev me_fn_leak : mMe := (⟨"FountainNet", "leak", "(II)I"⟩, prog_1_method_8_code, 5, some .int)
abbrev me_fn_flow : mMe := (⟨"FountainNet", "flow", "(I)I"⟩, prog_1_method_9_code, 3, some .int)
abbrev me_ga_reckonAsItIs : mMe := (⟨"FountainNet$Garden", "reckonAsItIs", "()V"⟩, prog_2_method_6_code, 1, none)
abbrev me_ga_reckon : mMe := (⟨"FountainNet$Garden", "reckon", "(IZ)V"⟩, prog_2_method_7_code, 5, none)
abbrev me_ga_forgetFlows : mMe := (⟨"FountainNet$Garden", "forgetFlows", "()V"⟩, prog_2_method_8_code, 2, none)
abbrev me_jn_drawAmong : mMe := (⟨"FountainNet$Joint", "drawAmong", "(I)I"⟩, prog_4_method_4_code, 2, some .int)
abbrev me_ga_addFlowAhead : mMe := (⟨"FountainNet$Garden", "addFlowAhead", "(LFountainNet$Joint;)V"⟩, prog_2_method_9_code, 2, none)
abbrev me_jn_lossNow : mMe := (⟨"FountainNet$Joint", "lossNow", "()I"⟩, prog_4_method_2_code, 3, some .int)
abbrev me_fn_head : mMe := (⟨"FountainNet", "head", "(I)I"⟩, prog_1_method_10_code, 3, some .int)
abbrev me_fn_refuseAsTold : mMe := (⟨"FountainNet", "refuseAsTold", "(I)I"⟩, prog_1_method_36_code, 2, some .int)
abbrev me_jn_headWith : mMe := (⟨"FountainNet$Joint", "headWith", "(I)I"⟩, prog_4_method_3_code, 3, some .int)
abbrev me_tk_levelWith : mMe := (⟨"FountainNet$Tank", "levelWith", "(I)I"⟩, prog_7_method_3_code, 2, some .int)
abbrev me_fn_rise : mMe := (⟨"FountainNet", "rise", "(I)I"⟩, prog_1_method_11_code, 3, some .int)
abbrev me_je_riseAmong : mMe := (⟨"FountainNet$Jet", "riseAmong", "(II)I"⟩, prog_3_method_3_code, 3, some .int)
abbrev me_fn_share : mMe := (⟨"FountainNet", "share", "(II)I"⟩, prog_1_method_12_code, 8, some .int)
abbrev me_fn_minutes : mMe := (⟨"FountainNet", "minutes", "(I)I"⟩, prog_1_method_13_code, 3, some .int)
abbrev me_tk_passMinutes : mMe := (⟨"FountainNet$Tank", "passMinutes", "(I)V"⟩, prog_7_method_8_code, 4, none)
abbrev me_tk_withSpring : mMe := (⟨"FountainNet$Tank", "withSpring", "(I)I"⟩, prog_7_method_6_code, 2, some .int)
abbrev me_tk_waterAfterMinute : mMe := (⟨"FountainNet$Tank", "waterAfterMinute", "(I)I"⟩, prog_7_method_7_code, 2, some .int)
abbrev me_fn_lasts : mMe := (⟨"FountainNet", "lasts", "(I)I"⟩, prog_1_method_14_code, 5, some .int)
abbrev me_fn_view : mMe := (⟨"FountainNet", "view", "(IIII)I"⟩, prog_1_method_15_code, 7, some .int)
abbrev me_ga_allJets : mMe := (⟨"FountainNet$Garden", "allJets", "()I"⟩, prog_2_method_5_code, 1, some .int)
abbrev me_vw_init : mMe := (⟨"FountainNet$View", "<init>", "(IIII)V"⟩, prog_9_method_1_code, 5, none)
abbrev me_fn_unview : mMe := (⟨"FountainNet", "unview", "()I"⟩, prog_1_method_16_code, 2, some .int)
abbrev me_al_remove : mMe := (⟨"java/util/ArrayList", "remove", "(I)Ljava/lang/Object;"⟩, prog_20_method_29_code, 4, some (.object "java/lang/Object"))
abbrev me_al_fastRemove : mMe := (⟨"java/util/ArrayList", "fastRemove", "([Ljava/lang/Object;I)V"⟩, prog_20_method_39_code, 4, none)
abbrev me_fn_walk : mMe := (⟨"FountainNet", "walk", "(I)I"⟩, prog_1_method_17_code, 2, some .int)
abbrev me_sr_isAhead : mMe := (⟨"FountainNet$Stroll", "isAhead", "()Z"⟩, prog_6_method_2_code, 1, some .boolean)
abbrev me_sr_lastMinute : mMe := (⟨"FountainNet$Stroll", "lastMinute", "()I"⟩, prog_6_method_3_code, 1, some .int)
abbrev me_al_isEmpty : mMe := (⟨"java/util/ArrayList", "isEmpty", "()Z"⟩, prog_20_method_9_code, 1, some .boolean)
abbrev me_sr_go : mMe := (⟨"FountainNet$Stroll", "go", "(Z)V"⟩, prog_6_method_4_code, 9, none)
abbrev me_sr_begin : mMe := (⟨"FountainNet$Stroll", "begin", "()V"⟩, prog_6_method_5_code, 3, none)
abbrev me_sr_lookAtRises : mMe := (⟨"FountainNet$Stroll", "lookAtRises", "(LFountainNet$View;Z)LFountainNet$Jet;"⟩, prog_6_method_6_code, 6, some (.object "FountainNet$Jet"))
abbrev me_sr_passMinute : mMe := (⟨"FountainNet$Stroll", "passMinute", "()V"⟩, prog_6_method_7_code, 4, none)
abbrev me_fn_most : mMe := (⟨"FountainNet", "most", "()I"⟩, prog_1_method_18_code, 1, some .int)
abbrev me_fn_pace : mMe := (⟨"FountainNet", "pace", "(I)I"⟩, prog_1_method_19_code, 3, some .int)
abbrev me_fn_tasks : mMe := (⟨"FountainNet", "tasks", "()I"⟩, prog_1_method_20_code, 1, some .int)
abbrev me_tl_build : mMe := (⟨"FountainNet$TaskList", "build", "()V"⟩, prog_8_method_2_code, 5, none)
abbrev me_tl_addChange : mMe := (⟨"FountainNet$TaskList", "addChange", "(III)V"⟩, prog_8_method_3_code, 6, none)
abbrev me_fn_task : mMe := (⟨"FountainNet", "task", "(II)I"⟩, prog_1_method_21_code, 3, some .int)
abbrev me_tl_tell : mMe := (⟨"FountainNet$TaskList", "tell", "(II)I"⟩, prog_8_method_4_code, 3, some .int)
abbrev me_fn_boys : mMe := (⟨"FountainNet", "boys", "()I"⟩, prog_1_method_22_code, 1, some .int)
abbrev me_tl_fewestBoys : mMe := (⟨"FountainNet$TaskList", "fewestBoys", "(I)I"⟩, prog_8_method_5_code, 5, some .int)
abbrev me_tl_mostApartAhead : mMe := (⟨"FountainNet$TaskList", "mostApartAhead", "(II)I"⟩, prog_8_method_6_code, 6, some .int)
abbrev me_fn_gauge : mMe := (⟨"FountainNet", "gauge", "(II)I"⟩, prog_1_method_23_code, 5, some .int)
abbrev me_fn_tol : mMe := (⟨"FountainNet", "tol", "(I)I"⟩, prog_1_method_24_code, 3, some .int)
abbrev me_fn_explain : mMe := (⟨"FountainNet", "explain", "()I"⟩, prog_1_method_25_code, 1, some .int)
abbrev me_lk_seek : mMe := (⟨"FountainNet$LeakSearch", "seek", "()I"⟩, prog_5_method_2_code, 4, some .int)
abbrev me_lk_forgetFound : mMe := (⟨"FountainNet$LeakSearch", "forgetFound", "()V"⟩, prog_5_method_4_code, 1, none)
abbrev me_lk_isAnyRead : mMe := (⟨"FountainNet$LeakSearch", "isAnyRead", "()Z"⟩, prog_5_method_5_code, 2, some .boolean)
abbrev me_lk_misses : mMe := (⟨"FountainNet$LeakSearch", "misses", "()I"⟩, prog_5_method_9_code, 5, some .int)
abbrev me_lk_explainsAlone : mMe := (⟨"FountainNet$LeakSearch", "explainsAlone", "(LFountainNet$Joint;)Z"⟩, prog_5_method_6_code, 6, some .boolean)
abbrev me_lk_explainTogether : mMe := (⟨"FountainNet$LeakSearch", "explainTogether", "(LFountainNet$Joint;LFountainNet$Joint;)Z"⟩, prog_5_method_7_code, 9, some .boolean)
abbrev me_lk_keepTwo : mMe := (⟨"FountainNet$LeakSearch", "keepTwo", "(LFountainNet$Joint;LFountainNet$Joint;)V"⟩, prog_5_method_8_code, 3, none)
abbrev me_fn_explained : mMe := (⟨"FountainNet", "explained", "(I)I"⟩, prog_1_method_26_code, 2, some .int)
abbrev me_fn_rivals : mMe := (⟨"FountainNet", "rivals", "()I"⟩, prog_1_method_27_code, 1, some .int)
abbrev me_lk_howManyAlone : mMe := (⟨"FountainNet$LeakSearch", "howManyAlone", "()I"⟩, prog_5_method_3_code, 3, some .int)
abbrev me_fn_empty : mMe := (⟨"FountainNet", "empty", "(I)I"⟩, prog_1_method_28_code, 3, some .int)
abbrev me_ga_mayBeEmptied : mMe := (⟨"FountainNet$Garden", "mayBeEmptied", "(LFountainNet$Joint;)Z"⟩, prog_2_method_10_code, 4, some .boolean)
abbrev me_fn_fill : mMe := (⟨"FountainNet", "fill", "(I)I"⟩, prog_1_method_29_code, 3, some .int)
abbrev me_fn_order : mMe := (⟨"FountainNet", "order", "(I)I"⟩, prog_1_method_30_code, 2, some .int)
abbrev me_ga_jointInOrder : mMe := (⟨"FountainNet$Garden", "jointInOrder", "(I)I"⟩, prog_2_method_12_code, 4, some .int)
abbrev me_ga_beginOrder : mMe := (⟨"FountainNet$Garden", "beginOrder", "()V"⟩, prog_2_method_13_code, 3, none)
abbrev me_ga_nextInOrder : mMe := (⟨"FountainNet$Garden", "nextInOrder", "()LFountainNet$Joint;"⟩, prog_2_method_14_code, 5, some (.object "FountainNet$Joint"))
abbrev me_fn_tankOf : mMe := (⟨"FountainNet", "tankOf", "(II)I"⟩, prog_1_method_31_code, 4, some .int)
abbrev me_fn_jointOf : mMe := (⟨"FountainNet", "jointOf", "(II)I"⟩, prog_1_method_32_code, 4, some .int)
abbrev me_fn_count : mMe := (⟨"FountainNet", "count", "(I)I"⟩, prog_1_method_33_code, 2, some .int)
abbrev me_it_bitCount : mMe := (⟨"java/lang/Integer", "bitCount", "(I)I"⟩, prog_14_method_49_code, 1, some .int)
abbrev me_ga_emptyPipes : mMe := (⟨"FountainNet$Garden", "emptyPipes", "()I"⟩, prog_2_method_11_code, 3, some .int)
abbrev me_fn_refusalsOf : mMe := (⟨"FountainNet", "refusalsOf", "(I)I"⟩, prog_1_method_34_code, 2, some .int)
abbrev me_fm_init : mMe := (⟨"FountainNetModel", "<init>", "()V"⟩, prog_11_method_1_code, 1, none)
abbrev me_fm_tank : mMe := (⟨"FountainNetModel", "tank", "(IIII)I"⟩, prog_11_method_7_code, 5, some .int)
abbrev me_fm_refuse : mMe := (⟨"FountainNetModel", "refuse", "(I)I"⟩, prog_11_method_2_code, 2, some .int)
abbrev me_fm_set : mMe := (⟨"FountainNetModel", "set", "(III)I"⟩, prog_11_method_8_code, 6, some .int)
abbrev me_fm_isIn : mMe := (⟨"FountainNetModel", "isIn", "(II)Z"⟩, prog_11_method_4_code, 2, some .boolean)
abbrev me_fm_wrong : mMe := (⟨"FountainNetModel", "wrong", "(III)I"⟩, prog_11_method_5_code, 3, some .int)
abbrev me_fm_changes : mMe := (⟨"FountainNetModel", "changes", "()V"⟩, prog_11_method_6_code, 1, none)
abbrev me_fm_joint : mMe := (⟨"FountainNetModel", "joint", "(ZIIII)I"⟩, prog_11_method_11_code, 6, some .int)
abbrev me_fm_jet : mMe := (⟨"FountainNetModel", "jet", "(II)I"⟩, prog_11_method_12_code, 3, some .int)
abbrev me_fm_isJoint : mMe := (⟨"FountainNetModel", "isJoint", "(I)Z"⟩, prog_11_method_9_code, 2, some .boolean)
abbrev me_fm_play : mMe := (⟨"FountainNetModel", "play", "(IZ)I"⟩, prog_11_method_14_code, 3, some .int)
abbrev me_fm_isJet : mMe := (⟨"FountainNetModel", "isJet", "(I)Z"⟩, prog_11_method_10_code, 2, some .boolean)
abbrev me_fm_isCut : mMe := (⟨"FountainNetModel", "isCut", "(I)Z"⟩, prog_11_method_13_code, 4, some .boolean)
abbrev me_fm_pipe : mMe := (⟨"FountainNetModel", "pipe", "(II)I"⟩, prog_11_method_15_code, 5, some .int)
abbrev me_fm_leak : mMe := (⟨"FountainNetModel", "leak", "(II)I"⟩, prog_11_method_16_code, 5, some .int)
abbrev me_fm_flow : mMe := (⟨"FountainNetModel", "flow", "(I)I"⟩, prog_11_method_21_code, 2, some .int)
abbrev me_fm_sees : mMe := (⟨"FountainNetModel", "sees", "()V"⟩, prog_11_method_20_code, 1, none)
abbrev me_fm_asItIs : mMe := (⟨"FountainNetModel", "asItIs", "()V"⟩, prog_11_method_17_code, 2, none)
abbrev me_fm_runs : mMe := (⟨"FountainNetModel", "runs", "()V"⟩, prog_11_method_18_code, 4, none)
abbrev me_fm_head : mMe := (⟨"FountainNetModel", "head", "(I)I"⟩, prog_11_method_22_code, 2, some .int)
abbrev me_fm_refuseFar : mMe := (⟨"FountainNetModel", "refuseFar", "(I)I"⟩, prog_11_method_3_code, 2, some .int)
abbrev me_fm_rise : mMe := (⟨"FountainNetModel", "rise", "(I)I"⟩, prog_11_method_23_code, 2, some .int)
abbrev me_fm_riseOf : mMe := (⟨"FountainNetModel", "riseOf", "(I)I"⟩, prog_11_method_19_code, 2, some .int)
abbrev me_fm_share : mMe := (⟨"FountainNetModel", "share", "(II)I"⟩, prog_11_method_24_code, 4, some .int)
abbrev me_fm_minutes : mMe := (⟨"FountainNetModel", "minutes", "(I)I"⟩, prog_11_method_26_code, 5, some .int)
abbrev me_fm_passes : mMe := (⟨"FountainNetModel", "passes", "(I)V"⟩, prog_11_method_25_code, 4, none)
abbrev me_fm_lasts : mMe := (⟨"FountainNetModel", "lasts", "(I)I"⟩, prog_11_method_27_code, 3, some .int)
abbrev me_fm_view : mMe := (⟨"FountainNetModel", "view", "(IIII)I"⟩, prog_11_method_28_code, 6, some .int)
abbrev me_fm_unview : mMe := (⟨"FountainNetModel", "unview", "()I"⟩, prog_11_method_29_code, 1, some .int)
abbrev me_fm_walk : mMe := (⟨"FountainNetModel", "walk", "(I)I"⟩, prog_11_method_34_code, 2, some .int)
abbrev me_fm_hasWalk : mMe := (⟨"FountainNetModel", "hasWalk", "()Z"⟩, prog_11_method_33_code, 1, some .boolean)
abbrev me_fm_walks : mMe := (⟨"FountainNetModel", "walks", "(Z)V"⟩, prog_11_method_31_code, 6, none)
abbrev me_fm_looksAt : mMe := (⟨"FountainNetModel", "looksAt", "()V"⟩, prog_11_method_32_code, 2, none)
abbrev me_fm_viewAt : mMe := (⟨"FountainNetModel", "viewAt", "(I)I"⟩, prog_11_method_30_code, 3, some .int)
abbrev me_fm_most : mMe := (⟨"FountainNetModel", "most", "()I"⟩, prog_11_method_35_code, 1, some .int)
abbrev me_fm_pace : mMe := (⟨"FountainNetModel", "pace", "(I)I"⟩, prog_11_method_36_code, 4, some .int)
abbrev me_fm_tasks : mMe := (⟨"FountainNetModel", "tasks", "()I"⟩, prog_11_method_39_code, 1, some .int)
abbrev me_fm_findTasks : mMe := (⟨"FountainNetModel", "findTasks", "()V"⟩, prog_11_method_38_code, 4, none)
abbrev me_fm_adds : mMe := (⟨"FountainNetModel", "adds", "(III)V"⟩, prog_11_method_37_code, 5, none)
abbrev me_fm_task : mMe := (⟨"FountainNetModel", "task", "(II)I"⟩, prog_11_method_40_code, 3, some .int)
abbrev me_fm_boys : mMe := (⟨"FountainNetModel", "boys", "()I"⟩, prog_11_method_43_code, 4, some .int)
abbrev me_fm_leads : mMe := (⟨"FountainNetModel", "leads", "(I)Z"⟩, prog_11_method_42_code, 3, some .boolean)
abbrev me_fm_canFollow : mMe := (⟨"FountainNetModel", "canFollow", "(II)Z"⟩, prog_11_method_41_code, 3, some .boolean)
abbrev me_fm_gauge : mMe := (⟨"FountainNetModel", "gauge", "(II)I"⟩, prog_11_method_44_code, 5, some .int)
abbrev me_fm_tol : mMe := (⟨"FountainNetModel", "tol", "(I)I"⟩, prog_11_method_45_code, 4, some .int)
abbrev me_fm_explain : mMe := (⟨"FountainNetModel", "explain", "()I"⟩, prog_11_method_49_code, 1, some .int)
abbrev me_fm_look : mMe := (⟨"FountainNetModel", "look", "()V"⟩, prog_11_method_47_code, 5, none)
abbrev me_fm_explains : mMe := (⟨"FountainNetModel", "explains", "()Z"⟩, prog_11_method_46_code, 3, some .boolean)
abbrev me_fm_two : mMe := (⟨"FountainNetModel", "two", "(II)V"⟩, prog_11_method_48_code, 5, none)
abbrev me_fm_explained : mMe := (⟨"FountainNetModel", "explained", "(I)I"⟩, prog_11_method_50_code, 2, some .int)
abbrev me_fm_rivals : mMe := (⟨"FountainNetModel", "rivals", "()I"⟩, prog_11_method_51_code, 1, some .int)
abbrev me_fm_empty : mMe := (⟨"FountainNetModel", "empty", "(I)I"⟩, prog_11_method_53_code, 2, some .int)
abbrev me_fm_mayEmpty : mMe := (⟨"FountainNetModel", "mayEmpty", "(I[Z)Z"⟩, prog_11_method_52_code, 5, some .boolean)
abbrev me_fm_fill : mMe := (⟨"FountainNetModel", "fill", "(I)I"⟩, prog_11_method_54_code, 2, some .int)
abbrev me_fm_order : mMe := (⟨"FountainNetModel", "order", "(I)I"⟩, prog_11_method_55_code, 5, some .int)
abbrev me_fm_tankOf : mMe := (⟨"FountainNetModel", "tankOf", "(II)I"⟩, prog_11_method_56_code, 3, some .int)
abbrev me_fm_jointOf : mMe := (⟨"FountainNetModel", "jointOf", "(II)I"⟩, prog_11_method_57_code, 3, some .int)
abbrev me_fm_count : mMe := (⟨"FountainNetModel", "count", "(I)I"⟩, prog_11_method_58_code, 4, some .int)
abbrev me_lw_law : mMe := (⟨"FountainNetLaw", "law", "([I)Z"⟩, code, 4, some .boolean)
theorem ca_fn_init : mCal me_fn_init := ⟨by decide +kernel, ⟨by decide, by decide⟩, by decide, (mm 71 (by decide +kernel) rfl), (mm 47 (by decide +kernel) rfl)⟩
theorem pa_fn_init : (parseMethodDescriptor me_fn_init.1.desc).map (fun d => d.parameters.length) = some 0 := by decide +kernel
theorem ii_fn_init : Cond.instanceMethod me_fn_init.1 ∈ mTb ∧ me_fn_init.1.name = "<init>" ∧ me_fn_init.2.2.2 = none := ⟨(mm 70 (by decide +kernel) rfl), rfl, rfl⟩
theorem ca_ga_init : mCal me_ga_init := ⟨by decide +kernel, ⟨by decide, by decide⟩, by decide, (mm 79 (by decide +kernel) rfl), (mm 48 (by decide +kernel) rfl)⟩
theorem pa_ga_init : (parseMethodDescriptor me_ga_init.1.desc).map (fun d => d.parameters.length) = some 0 := by decide +kernel
theorem ii_ga_init : Cond.instanceMethod me_ga_init.1 ∈ mTb ∧ me_ga_init.1.name = "<init>" ∧ me_ga_init.2.2.2 = none := ⟨(mm 78 (by decide +kernel) rfl), rfl, rfl⟩
theorem ca_al_init : mCal me_al_init := ⟨by decide +kernel, ⟨by decide, by decide⟩, by decide, (mm 85 (by decide +kernel) rfl), (mm 51 (by decide +kernel) rfl)⟩
theorem pa_al_init : (parseMethodDescriptor me_al_init.1.desc).map (fun d => d.parameters.length) = some 0 := by decide +kernel
theorem ii_al_init : Cond.instanceMethod me_al_init.1 ∈ mTb ∧ me_al_init.1.name = "<init>" ∧ me_al_init.2.2.2 = none := ⟨(mm 84 (by decide +kernel) rfl), rfl, rfl⟩
theorem ca_ab_init : mCal me_ab_init := ⟨by decide +kernel, ⟨by decide, by decide⟩, by decide, (mm 88 (by decide +kernel) rfl), (mm 50 (by decide +kernel) rfl)⟩
theorem pa_ab_init : (parseMethodDescriptor me_ab_init.1.desc).map (fun d => d.parameters.length) = some 0 := by decide +kernel
theorem ii_ab_init : Cond.instanceMethod me_ab_init.1 ∈ mTb ∧ me_ab_init.1.name = "<init>" ∧ me_ab_init.2.2.2 = none := ⟨(mm 87 (by decide +kernel) rfl), rfl, rfl⟩
theorem ca_ac_init : mCal me_ac_init := ⟨by decide +kernel, ⟨by decide, by decide⟩, by decide, (mm 91 (by decide +kernel) rfl), (mm 49 (by decide +kernel) rfl)⟩
theorem pa_ac_init : (parseMethodDescriptor me_ac_init.1.desc).map (fun d => d.parameters.length) = some 0 := by decide +kernel
theorem ii_ac_init : Cond.instanceMethod me_ac_init.1 ∈ mTb ∧ me_ac_init.1.name = "<init>" ∧ me_ac_init.2.2.2 = none := ⟨(mm 90 (by decide +kernel) rfl), rfl, rfl⟩
theorem ca_sr_init : mCal me_sr_init := ⟨by decide +kernel, ⟨by decide, by decide⟩, by decide, (mm 140 (by decide +kernel) rfl), (mm 52 (by decide +kernel) rfl)⟩
theorem pa_sr_init : (parseMethodDescriptor me_sr_init.1.desc).map (fun d => d.parameters.length) = some 2 := by decide +kernel
theorem ii_sr_init : Cond.instanceMethod me_sr_init.1 ∈ mTb ∧ me_sr_init.1.name = "<init>" ∧ me_sr_init.2.2.2 = none := ⟨(mm 139 (by decide +kernel) rfl), rfl, rfl⟩
theorem ca_tl_init : mCal me_tl_init := ⟨by decide +kernel, ⟨by decide, by decide⟩, by decide, (mm 177 (by decide +kernel) rfl), (mm 53 (by decide +kernel) rfl)⟩
theorem pa_tl_init : (parseMethodDescriptor me_tl_init.1.desc).map (fun d => d.parameters.length) = some 2 := by decide +kernel
theorem ii_tl_init : Cond.instanceMethod me_tl_init.1 ∈ mTb ∧ me_tl_init.1.name = "<init>" ∧ me_tl_init.2.2.2 = none := ⟨(mm 176 (by decide +kernel) rfl), rfl, rfl⟩
theorem ca_lk_init : mCal me_lk_init := ⟨by decide +kernel, ⟨by decide, by decide⟩, by decide, (mm 210 (by decide +kernel) rfl), (mm 54 (by decide +kernel) rfl)⟩
theorem pa_lk_init : (parseMethodDescriptor me_lk_init.1.desc).map (fun d => d.parameters.length) = some 1 := by decide +kernel
theorem ii_lk_init : Cond.instanceMethod me_lk_init.1 ∈ mTb ∧ me_lk_init.1.name = "<init>" ∧ me_lk_init.2.2.2 = none := ⟨(mm 209 (by decide +kernel) rfl), rfl, rfl⟩
theorem ca_fn_tank : mCal me_fn_tank := ⟨by decide +kernel, ⟨by decide, by decide⟩, by decide, (mm 261 (by decide +kernel) rfl), (mm 47 (by decide +kernel) rfl)⟩
theorem pa_fn_tank : (parseMethodDescriptor me_fn_tank.1.desc).map (fun d => d.parameters.length) = some 4 := by decide +kernel
theorem ii_fn_tank : Cond.instanceMethod me_fn_tank.1 ∈ mTb ∧ Cond.selects me_fn_tank.1.cls me_fn_tank.1 me_fn_tank.1 ∈ mTb := ⟨(mm 259 (by decide +kernel) rfl), (mm 260 (by decide +kernel) rfl)⟩
theorem ca_fn_refuse : mCal me_fn_refuse := ⟨by decide +kernel, ⟨by decide, by decide⟩, by decide, (mm 265 (by decide +kernel) rfl), (mm 47 (by decide +kernel) rfl)⟩
theorem pa_fn_refuse : (parseMethodDescriptor me_fn_refuse.1.desc).map (fun d => d.parameters.length) = some 1 := by decide +kernel
theorem ii_fn_refuse : Cond.instanceMethod me_fn_refuse.1 ∈ mTb ∧ Cond.selects me_fn_refuse.1.cls me_fn_refuse.1 me_fn_refuse.1 ∈ mTb := ⟨(mm 264 (by decide +kernel) rfl), (mm 0 (by decide +kernel) rfl)⟩
theorem ca_al_size : mCal me_al_size := ⟨by decide +kernel, ⟨by decide, by decide⟩, by decide, (mm 269 (by decide +kernel) rfl), (mm 51 (by decide +kernel) rfl)⟩
theorem pa_al_size : (parseMethodDescriptor me_al_size.1.desc).map (fun d => d.parameters.length) = some 0 := by decide +kernel
theorem ii_al_size : Cond.instanceMethod me_al_size.1 ∈ mTb ∧ Cond.selects me_al_size.1.cls me_al_size.1 me_al_size.1 ∈ mTb := ⟨(mm 267 (by decide +kernel) rfl), (mm 268 (by decide +kernel) rfl)⟩
theorem ca_tk_init : mCal me_tk_init := ⟨by decide +kernel, ⟨by decide, by decide⟩, by decide, (mm 274 (by decide +kernel) rfl), (mm 56 (by decide +kernel) rfl)⟩
theorem pa_tk_init : (parseMethodDescriptor me_tk_init.1.desc).map (fun d => d.parameters.length) = some 5 := by decide +kernel
theorem ii_tk_init : Cond.instanceMethod me_tk_init.1 ∈ mTb ∧ me_tk_init.1.name = "<init>" ∧ me_tk_init.2.2.2 = none := ⟨(mm 273 (by decide +kernel) rfl), rfl, rfl⟩
theorem ca_al_add : mCal me_al_add := ⟨by decide +kernel, ⟨by decide, by decide⟩, by decide, (mm 319 (by decide +kernel) rfl), (mm 51 (by decide +kernel) rfl)⟩
theorem pa_al_add : (parseMethodDescriptor me_al_add.1.desc).map (fun d => d.parameters.length) = some 1 := by decide +kernel
theorem ii_al_add : Cond.instanceMethod me_al_add.1 ∈ mTb ∧ Cond.selects me_al_add.1.cls me_al_add.1 me_al_add.1 ∈ mTb := ⟨(mm 317 (by decide +kernel) rfl), (mm 318 (by decide +kernel) rfl)⟩
theorem ca_al_add2 : mCal me_al_add2 := ⟨by decide +kernel, ⟨by decide, by decide⟩, by decide, (mm 323 (by decide +kernel) rfl), (mm 51 (by decide +kernel) rfl)⟩
theorem pa_al_add2 : (parseMethodDescriptor me_al_add2.1.desc).map (fun d => d.parameters.length) = some 3 := by decide +kernel
theorem ii_al_add2 : Cond.instanceMethod me_al_add2.1 ∈ mTb ∧ Cond.selects me_al_add2.1.cls me_al_add2.1 me_al_add2.1 ∈ mTb := ⟨(mm 322 (by decide +kernel) rfl), (mm 1 (by decide +kernel) rfl)⟩
theorem ca_al_grow : mCal me_al_grow := ⟨by decide +kernel, ⟨by decide, by decide⟩, by decide, (mm 327 (by decide +kernel) rfl), (mm 51 (by decide +kernel) rfl)⟩
theorem pa_al_grow : (parseMethodDescriptor me_al_grow.1.desc).map (fun d => d.parameters.length) = some 0 := by decide +kernel
theorem ii_al_grow : Cond.instanceMethod me_al_grow.1 ∈ mTb ∧ Cond.selects me_al_grow.1.cls me_al_grow.1 me_al_grow.1 ∈ mTb := ⟨(mm 326 (by decide +kernel) rfl), (mm 2 (by decide +kernel) rfl)⟩
theorem ca_al_grow2 : mCal me_al_grow2 := ⟨by decide +kernel, ⟨by decide, by decide⟩, by decide, (mm 331 (by decide +kernel) rfl), (mm 51 (by decide +kernel) rfl)⟩
theorem pa_al_grow2 : (parseMethodDescriptor me_al_grow2.1.desc).map (fun d => d.parameters.length) = some 1 := by decide +kernel
theorem ii_al_grow2 : Cond.instanceMethod me_al_grow2.1 ∈ mTb ∧ Cond.selects me_al_grow2.1.cls me_al_grow2.1 me_al_grow2.1 ∈ mTb := ⟨(mm 330 (by decide +kernel) rfl), (mm 3 (by decide +kernel) rfl)⟩
theorem ca_as_newLength : mCal me_as_newLength := ⟨by decide +kernel, ⟨by decide, by decide⟩, by decide, (mm 334 (by decide +kernel) rfl), (mm 57 (by decide +kernel) rfl)⟩
theorem pa_as_newLength : (parseMethodDescriptor me_as_newLength.1.desc).map (fun d => d.parameters.length) = some 3 := by decide +kernel
theorem is_as_newLength : Cond.static me_as_newLength.1 ∈ mTb := (mm 333 (by decide +kernel) rfl)
theorem ca_ar_copyOf : mCal me_ar_copyOf := ⟨by decide +kernel, ⟨by decide, by decide⟩, by decide, (mm 344 (by decide +kernel) rfl), (mm 59 (by decide +kernel) rfl)⟩
theorem pa_ar_copyOf : (parseMethodDescriptor me_ar_copyOf.1.desc).map (fun d => d.parameters.length) = some 2 := by decide +kernel
theorem is_ar_copyOf : Cond.static me_ar_copyOf.1 ∈ mTb := (mm 343 (by decide +kernel) rfl)
theorem ca_ar_copyOf2 : mCal me_ar_copyOf2 := ⟨by decide +kernel, ⟨by decide, by decide⟩, by decide, (mm 362 (by decide +kernel) rfl), (mm 59 (by decide +kernel) rfl)⟩
theorem pa_ar_copyOf2 : (parseMethodDescriptor me_ar_copyOf2.1.desc).map (fun d => d.parameters.length) = some 3 := by decide +kernel
theorem is_ar_copyOf2 : Cond.static me_ar_copyOf2.1 ∈ mTb := (mm 361 (by decide +kernel) rfl)
theorem ca_fn_set : mCal me_fn_set := ⟨by decide +kernel, ⟨by decide, by decide⟩, by decide, (mm 377 (by decide +kernel) rfl), (mm 47 (by decide +kernel) rfl)⟩
theorem pa_fn_set : (parseMethodDescriptor me_fn_set.1.desc).map (fun d => d.parameters.length) = some 3 := by decide +kernel
theorem ii_fn_set : Cond.instanceMethod me_fn_set.1 ∈ mTb ∧ Cond.selects me_fn_set.1.cls me_fn_set.1 me_fn_set.1 ∈ mTb := ⟨(mm 375 (by decide +kernel) rfl), (mm 376 (by decide +kernel) rfl)⟩
theorem ca_ga_tankAt : mCal me_ga_tankAt := ⟨by decide +kernel, ⟨by decide, by decide⟩, by decide, (mm 381 (by decide +kernel) rfl), (mm 48 (by decide +kernel) rfl)⟩
theorem pa_ga_tankAt : (parseMethodDescriptor me_ga_tankAt.1.desc).map (fun d => d.parameters.length) = some 1 := by decide +kernel
theorem ii_ga_tankAt : Cond.instanceMethod me_ga_tankAt.1 ∈ mTb ∧ Cond.selects me_ga_tankAt.1.cls me_ga_tankAt.1 me_ga_tankAt.1 ∈ mTb := ⟨(mm 379 (by decide +kernel) rfl), (mm 380 (by decide +kernel) rfl)⟩
theorem ca_al_get : mCal me_al_get := ⟨by decide +kernel, ⟨by decide, by decide⟩, by decide, (mm 386 (by decide +kernel) rfl), (mm 51 (by decide +kernel) rfl)⟩
theorem pa_al_get : (parseMethodDescriptor me_al_get.1.desc).map (fun d => d.parameters.length) = some 1 := by decide +kernel
theorem ii_al_get : Cond.instanceMethod me_al_get.1 ∈ mTb ∧ Cond.selects me_al_get.1.cls me_al_get.1 me_al_get.1 ∈ mTb := ⟨(mm 384 (by decide +kernel) rfl), (mm 385 (by decide +kernel) rfl)⟩
theorem ca_os_checkIndex : mCal me_os_checkIndex := ⟨by decide +kernel, ⟨by decide, by decide⟩, by decide, (mm 389 (by decide +kernel) rfl), (mm 61 (by decide +kernel) rfl)⟩
theorem pa_os_checkIndex : (parseMethodDescriptor me_os_checkIndex.1.desc).map (fun d => d.parameters.length) = some 2 := by decide +kernel
theorem is_os_checkIndex : Cond.static me_os_checkIndex.1 ∈ mTb := (mm 388 (by decide +kernel) rfl)
theorem ca_pr_checkIndex : mCal me_pr_checkIndex := ⟨by decide +kernel, ⟨by decide, by decide⟩, by decide, (mm 392 (by decide +kernel) rfl), (mm 62 (by decide +kernel) rfl)⟩
theorem pa_pr_checkIndex : (parseMethodDescriptor me_pr_checkIndex.1.desc).map (fun d => d.parameters.length) = some 3 := by decide +kernel
theorem is_pr_checkIndex : Cond.static me_pr_checkIndex.1 ∈ mTb := (mm 391 (by decide +kernel) rfl)
theorem ca_al_elementData : mCal me_al_elementData := ⟨by decide +kernel, ⟨by decide, by decide⟩, by decide, (mm 396 (by decide +kernel) rfl), (mm 51 (by decide +kernel) rfl)⟩
theorem pa_al_elementData : (parseMethodDescriptor me_al_elementData.1.desc).map (fun d => d.parameters.length) = some 1 := by decide +kernel
theorem ii_al_elementData : Cond.instanceMethod me_al_elementData.1 ∈ mTb ∧ Cond.selects me_al_elementData.1.cls me_al_elementData.1 me_al_elementData.1 ∈ mTb := ⟨(mm 394 (by decide +kernel) rfl), (mm 395 (by decide +kernel) rfl)⟩
theorem ca_tk_capacity : mCal me_tk_capacity := ⟨by decide +kernel, ⟨by decide, by decide⟩, by decide, (mm 401 (by decide +kernel) rfl), (mm 56 (by decide +kernel) rfl)⟩
theorem pa_tk_capacity : (parseMethodDescriptor me_tk_capacity.1.desc).map (fun d => d.parameters.length) = some 0 := by decide +kernel
theorem ii_tk_capacity : Cond.instanceMethod me_tk_capacity.1 ∈ mTb ∧ Cond.selects me_tk_capacity.1.cls me_tk_capacity.1 me_tk_capacity.1 ∈ mTb := ⟨(mm 399 (by decide +kernel) rfl), (mm 400 (by decide +kernel) rfl)⟩
theorem ca_tk_changeSpring : mCal me_tk_changeSpring := ⟨by decide +kernel, ⟨by decide, by decide⟩, by decide, (mm 405 (by decide +kernel) rfl), (mm 56 (by decide +kernel) rfl)⟩
theorem pa_tk_changeSpring : (parseMethodDescriptor me_tk_changeSpring.1.desc).map (fun d => d.parameters.length) = some 1 := by decide +kernel
theorem ii_tk_changeSpring : Cond.instanceMethod me_tk_changeSpring.1 ∈ mTb ∧ Cond.selects me_tk_changeSpring.1.cls me_tk_changeSpring.1 me_tk_changeSpring.1 ∈ mTb := ⟨(mm 403 (by decide +kernel) rfl), (mm 404 (by decide +kernel) rfl)⟩
theorem ca_tk_changeWater : mCal me_tk_changeWater := ⟨by decide +kernel, ⟨by decide, by decide⟩, by decide, (mm 409 (by decide +kernel) rfl), (mm 56 (by decide +kernel) rfl)⟩
theorem pa_tk_changeWater : (parseMethodDescriptor me_tk_changeWater.1.desc).map (fun d => d.parameters.length) = some 1 := by decide +kernel
theorem ii_tk_changeWater : Cond.instanceMethod me_tk_changeWater.1 ∈ mTb ∧ Cond.selects me_tk_changeWater.1.cls me_tk_changeWater.1 me_tk_changeWater.1 ∈ mTb := ⟨(mm 407 (by decide +kernel) rfl), (mm 408 (by decide +kernel) rfl)⟩
theorem ca_fn_joint : mCal me_fn_joint := ⟨by decide +kernel, ⟨by decide, by decide⟩, by decide, (mm 413 (by decide +kernel) rfl), (mm 47 (by decide +kernel) rfl)⟩
theorem pa_fn_joint : (parseMethodDescriptor me_fn_joint.1.desc).map (fun d => d.parameters.length) = some 5 := by decide +kernel
theorem ii_fn_joint : Cond.instanceMethod me_fn_joint.1 ∈ mTb ∧ Cond.selects me_fn_joint.1.cls me_fn_joint.1 me_fn_joint.1 ∈ mTb := ⟨(mm 411 (by decide +kernel) rfl), (mm 412 (by decide +kernel) rfl)⟩
theorem ca_ga_jointAt : mCal me_ga_jointAt := ⟨by decide +kernel, ⟨by decide, by decide⟩, by decide, (mm 417 (by decide +kernel) rfl), (mm 48 (by decide +kernel) rfl)⟩
theorem pa_ga_jointAt : (parseMethodDescriptor me_ga_jointAt.1.desc).map (fun d => d.parameters.length) = some 1 := by decide +kernel
theorem ii_ga_jointAt : Cond.instanceMethod me_ga_jointAt.1 ∈ mTb ∧ Cond.selects me_ga_jointAt.1.cls me_ga_jointAt.1 me_ga_jointAt.1 ∈ mTb := ⟨(mm 415 (by decide +kernel) rfl), (mm 416 (by decide +kernel) rfl)⟩
theorem ca_fn_feederOf : mCal me_fn_feederOf := ⟨by decide +kernel, ⟨by decide, by decide⟩, by decide, (mm 421 (by decide +kernel) rfl), (mm 47 (by decide +kernel) rfl)⟩
theorem pa_fn_feederOf : (parseMethodDescriptor me_fn_feederOf.1.desc).map (fun d => d.parameters.length) = some 1 := by decide +kernel
theorem is_fn_feederOf : Cond.static me_fn_feederOf.1 ∈ mTb := (mm 420 (by decide +kernel) rfl)
theorem ca_jn_init : mCal me_jn_init := ⟨by decide +kernel, ⟨by decide, by decide⟩, by decide, (mm 426 (by decide +kernel) rfl), (mm 63 (by decide +kernel) rfl)⟩
theorem pa_jn_init : (parseMethodDescriptor me_jn_init.1.desc).map (fun d => d.parameters.length) = some 6 := by decide +kernel
theorem ii_jn_init : Cond.instanceMethod me_jn_init.1 ∈ mTb ∧ me_jn_init.1.name = "<init>" ∧ me_jn_init.2.2.2 = none := ⟨(mm 425 (by decide +kernel) rfl), rfl, rfl⟩
theorem ca_fn_jet : mCal me_fn_jet := ⟨by decide +kernel, ⟨by decide, by decide⟩, by decide, (mm 496 (by decide +kernel) rfl), (mm 47 (by decide +kernel) rfl)⟩
theorem pa_fn_jet : (parseMethodDescriptor me_fn_jet.1.desc).map (fun d => d.parameters.length) = some 2 := by decide +kernel
theorem ii_fn_jet : Cond.instanceMethod me_fn_jet.1 ∈ mTb ∧ Cond.selects me_fn_jet.1.cls me_fn_jet.1 me_fn_jet.1 ∈ mTb := ⟨(mm 494 (by decide +kernel) rfl), (mm 495 (by decide +kernel) rfl)⟩
theorem ca_je_init : mCal me_je_init := ⟨by decide +kernel, ⟨by decide, by decide⟩, by decide, (mm 501 (by decide +kernel) rfl), (mm 64 (by decide +kernel) rfl)⟩
theorem pa_je_init : (parseMethodDescriptor me_je_init.1.desc).map (fun d => d.parameters.length) = some 3 := by decide +kernel
theorem ii_je_init : Cond.instanceMethod me_je_init.1 ∈ mTb ∧ me_je_init.1.name = "<init>" ∧ me_je_init.2.2.2 = none := ⟨(mm 500 (by decide +kernel) rfl), rfl, rfl⟩
theorem ca_fn_play : mCal me_fn_play := ⟨by decide +kernel, ⟨by decide, by decide⟩, by decide, (mm 532 (by decide +kernel) rfl), (mm 47 (by decide +kernel) rfl)⟩
theorem pa_fn_play : (parseMethodDescriptor me_fn_play.1.desc).map (fun d => d.parameters.length) = some 2 := by decide +kernel
theorem ii_fn_play : Cond.instanceMethod me_fn_play.1 ∈ mTb ∧ Cond.selects me_fn_play.1.cls me_fn_play.1 me_fn_play.1 ∈ mTb := ⟨(mm 530 (by decide +kernel) rfl), (mm 531 (by decide +kernel) rfl)⟩
theorem ca_ga_jetAt : mCal me_ga_jetAt := ⟨by decide +kernel, ⟨by decide, by decide⟩, by decide, (mm 536 (by decide +kernel) rfl), (mm 48 (by decide +kernel) rfl)⟩
theorem pa_ga_jetAt : (parseMethodDescriptor me_ga_jetAt.1.desc).map (fun d => d.parameters.length) = some 1 := by decide +kernel
theorem ii_ga_jetAt : Cond.instanceMethod me_ga_jetAt.1 ∈ mTb ∧ Cond.selects me_ga_jetAt.1.cls me_ga_jetAt.1 me_ga_jetAt.1 ∈ mTb := ⟨(mm 534 (by decide +kernel) rfl), (mm 535 (by decide +kernel) rfl)⟩
theorem ca_je_isIn : mCal me_je_isIn := ⟨by decide +kernel, ⟨by decide, by decide⟩, by decide, (mm 541 (by decide +kernel) rfl), (mm 64 (by decide +kernel) rfl)⟩
theorem pa_je_isIn : (parseMethodDescriptor me_je_isIn.1.desc).map (fun d => d.parameters.length) = some 1 := by decide +kernel
theorem ii_je_isIn : Cond.instanceMethod me_je_isIn.1 ∈ mTb ∧ Cond.selects me_je_isIn.1.cls me_je_isIn.1 me_je_isIn.1 ∈ mTb := ⟨(mm 539 (by decide +kernel) rfl), (mm 540 (by decide +kernel) rfl)⟩
theorem ca_fn_pipe : mCal me_fn_pipe := ⟨by decide +kernel, ⟨by decide, by decide⟩, by decide, (mm 545 (by decide +kernel) rfl), (mm 47 (by decide +kernel) rfl)⟩
theorem pa_fn_pipe : (parseMethodDescriptor me_fn_pipe.1.desc).map (fun d => d.parameters.length) = some 2 := by decide +kernel
theorem ii_fn_pipe : Cond.instanceMethod me_fn_pipe.1 ∈ mTb ∧ Cond.selects me_fn_pipe.1.cls me_fn_pipe.1 me_fn_pipe.1 ∈ mTb := ⟨(mm 543 (by decide +kernel) rfl), (mm 544 (by decide +kernel) rfl)⟩
theorem ca_fn_leak : mCal me_fn_leak := ⟨by decide +kernel, ⟨by decide, by decide⟩, by decide, (mm 549 (by decide +kernel) rfl), (mm 47 (by decide +kernel) rfl)⟩
theorem pa_fn_leak : (parseMethodDescriptor me_fn_leak.1.desc).map (fun d => d.parameters.length) = some 2 := by decide +kernel
theorem ii_fn_leak : Cond.instanceMethod me_fn_leak.1 ∈ mTb ∧ Cond.selects me_fn_leak.1.cls me_fn_leak.1 me_fn_leak.1 ∈ mTb := ⟨(mm 547 (by decide +kernel) rfl), (mm 548 (by decide +kernel) rfl)⟩
theorem ca_fn_flow : mCal me_fn_flow := ⟨by decide +kernel, ⟨by decide, by decide⟩, by decide, (mm 553 (by decide +kernel) rfl), (mm 47 (by decide +kernel) rfl)⟩
theorem pa_fn_flow : (parseMethodDescriptor me_fn_flow.1.desc).map (fun d => d.parameters.length) = some 1 := by decide +kernel
theorem ii_fn_flow : Cond.instanceMethod me_fn_flow.1 ∈ mTb ∧ Cond.selects me_fn_flow.1.cls me_fn_flow.1 me_fn_flow.1 ∈ mTb := ⟨(mm 551 (by decide +kernel) rfl), (mm 552 (by decide +kernel) rfl)⟩
theorem ca_ga_reckonAsItIs : mCal me_ga_reckonAsItIs := ⟨by decide +kernel, ⟨by decide, by decide⟩, by decide, (mm 557 (by decide +kernel) rfl), (mm 48 (by decide +kernel) rfl)⟩
theorem pa_ga_reckonAsItIs : (parseMethodDescriptor me_ga_reckonAsItIs.1.desc).map (fun d => d.parameters.length) = some 0 := by decide +kernel
theorem ii_ga_reckonAsItIs : Cond.instanceMethod me_ga_reckonAsItIs.1 ∈ mTb ∧ Cond.selects me_ga_reckonAsItIs.1.cls me_ga_reckonAsItIs.1 me_ga_reckonAsItIs.1 ∈ mTb := ⟨(mm 555 (by decide +kernel) rfl), (mm 556 (by decide +kernel) rfl)⟩
theorem ca_ga_reckon : mCal me_ga_reckon := ⟨by decide +kernel, ⟨by decide, by decide⟩, by decide, (mm 561 (by decide +kernel) rfl), (mm 48 (by decide +kernel) rfl)⟩
theorem pa_ga_reckon : (parseMethodDescriptor me_ga_reckon.1.desc).map (fun d => d.parameters.length) = some 2 := by decide +kernel
theorem ii_ga_reckon : Cond.instanceMethod me_ga_reckon.1 ∈ mTb ∧ Cond.selects me_ga_reckon.1.cls me_ga_reckon.1 me_ga_reckon.1 ∈ mTb := ⟨(mm 559 (by decide +kernel) rfl), (mm 560 (by decide +kernel) rfl)⟩
theorem ca_ga_forgetFlows : mCal me_ga_forgetFlows := ⟨by decide +kernel, ⟨by decide, by decide⟩, by decide, (mm 565 (by decide +kernel) rfl), (mm 48 (by decide +kernel) rfl)⟩
theorem pa_ga_forgetFlows : (parseMethodDescriptor me_ga_forgetFlows.1.desc).map (fun d => d.parameters.length) = some 0 := by decide +kernel
theorem ii_ga_forgetFlows : Cond.instanceMethod me_ga_forgetFlows.1 ∈ mTb ∧ Cond.selects me_ga_forgetFlows.1.cls me_ga_forgetFlows.1 me_ga_forgetFlows.1 ∈ mTb := ⟨(mm 564 (by decide +kernel) rfl), (mm 4 (by decide +kernel) rfl)⟩
theorem ca_jn_drawAmong : mCal me_jn_drawAmong := ⟨by decide +kernel, ⟨by decide, by decide⟩, by decide, (mm 569 (by decide +kernel) rfl), (mm 63 (by decide +kernel) rfl)⟩
theorem pa_jn_drawAmong : (parseMethodDescriptor me_jn_drawAmong.1.desc).map (fun d => d.parameters.length) = some 1 := by decide +kernel
theorem ii_jn_drawAmong : Cond.instanceMethod me_jn_drawAmong.1 ∈ mTb ∧ Cond.selects me_jn_drawAmong.1.cls me_jn_drawAmong.1 me_jn_drawAmong.1 ∈ mTb := ⟨(mm 567 (by decide +kernel) rfl), (mm 568 (by decide +kernel) rfl)⟩
theorem ca_ga_addFlowAhead : mCal me_ga_addFlowAhead := ⟨by decide +kernel, ⟨by decide, by decide⟩, by decide, (mm 574 (by decide +kernel) rfl), (mm 48 (by decide +kernel) rfl)⟩
theorem pa_ga_addFlowAhead : (parseMethodDescriptor me_ga_addFlowAhead.1.desc).map (fun d => d.parameters.length) = some 1 := by decide +kernel
theorem ii_ga_addFlowAhead : Cond.instanceMethod me_ga_addFlowAhead.1 ∈ mTb ∧ Cond.selects me_ga_addFlowAhead.1.cls me_ga_addFlowAhead.1 me_ga_addFlowAhead.1 ∈ mTb := ⟨(mm 573 (by decide +kernel) rfl), (mm 5 (by decide +kernel) rfl)⟩
theorem ca_jn_lossNow : mCal me_jn_lossNow := ⟨by decide +kernel, ⟨by decide, by decide⟩, by decide, (mm 578 (by decide +kernel) rfl), (mm 63 (by decide +kernel) rfl)⟩
theorem pa_jn_lossNow : (parseMethodDescriptor me_jn_lossNow.1.desc).map (fun d => d.parameters.length) = some 0 := by decide +kernel
theorem ii_jn_lossNow : Cond.instanceMethod me_jn_lossNow.1 ∈ mTb ∧ Cond.selects me_jn_lossNow.1.cls me_jn_lossNow.1 me_jn_lossNow.1 ∈ mTb := ⟨(mm 576 (by decide +kernel) rfl), (mm 577 (by decide +kernel) rfl)⟩
theorem ca_fn_head : mCal me_fn_head := ⟨by decide +kernel, ⟨by decide, by decide⟩, by decide, (mm 583 (by decide +kernel) rfl), (mm 47 (by decide +kernel) rfl)⟩
theorem pa_fn_head : (parseMethodDescriptor me_fn_head.1.desc).map (fun d => d.parameters.length) = some 1 := by decide +kernel
theorem ii_fn_head : Cond.instanceMethod me_fn_head.1 ∈ mTb ∧ Cond.selects me_fn_head.1.cls me_fn_head.1 me_fn_head.1 ∈ mTb := ⟨(mm 581 (by decide +kernel) rfl), (mm 582 (by decide +kernel) rfl)⟩
theorem ca_fn_refuseAsTold : mCal me_fn_refuseAsTold := ⟨by decide +kernel, ⟨by decide, by decide⟩, by decide, (mm 587 (by decide +kernel) rfl), (mm 47 (by decide +kernel) rfl)⟩
theorem pa_fn_refuseAsTold : (parseMethodDescriptor me_fn_refuseAsTold.1.desc).map (fun d => d.parameters.length) = some 1 := by decide +kernel
theorem ii_fn_refuseAsTold : Cond.instanceMethod me_fn_refuseAsTold.1 ∈ mTb ∧ Cond.selects me_fn_refuseAsTold.1.cls me_fn_refuseAsTold.1 me_fn_refuseAsTold.1 ∈ mTb := ⟨(mm 586 (by decide +kernel) rfl), (mm 6 (by decide +kernel) rfl)⟩
theorem ca_jn_headWith : mCal me_jn_headWith := ⟨by decide +kernel, ⟨by decide, by decide⟩, by decide, (mm 592 (by decide +kernel) rfl), (mm 63 (by decide +kernel) rfl)⟩
theorem pa_jn_headWith : (parseMethodDescriptor me_jn_headWith.1.desc).map (fun d => d.parameters.length) = some 1 := by decide +kernel
theorem ii_jn_headWith : Cond.instanceMethod me_jn_headWith.1 ∈ mTb ∧ Cond.selects me_jn_headWith.1.cls me_jn_headWith.1 me_jn_headWith.1 ∈ mTb := ⟨(mm 590 (by decide +kernel) rfl), (mm 591 (by decide +kernel) rfl)⟩
theorem ca_tk_levelWith : mCal me_tk_levelWith := ⟨by decide +kernel, ⟨by decide, by decide⟩, by decide, (mm 596 (by decide +kernel) rfl), (mm 56 (by decide +kernel) rfl)⟩
theorem pa_tk_levelWith : (parseMethodDescriptor me_tk_levelWith.1.desc).map (fun d => d.parameters.length) = some 1 := by decide +kernel
theorem ii_tk_levelWith : Cond.instanceMethod me_tk_levelWith.1 ∈ mTb ∧ Cond.selects me_tk_levelWith.1.cls me_tk_levelWith.1 me_tk_levelWith.1 ∈ mTb := ⟨(mm 594 (by decide +kernel) rfl), (mm 595 (by decide +kernel) rfl)⟩
theorem ca_fn_rise : mCal me_fn_rise := ⟨by decide +kernel, ⟨by decide, by decide⟩, by decide, (mm 600 (by decide +kernel) rfl), (mm 47 (by decide +kernel) rfl)⟩
theorem pa_fn_rise : (parseMethodDescriptor me_fn_rise.1.desc).map (fun d => d.parameters.length) = some 1 := by decide +kernel
theorem ii_fn_rise : Cond.instanceMethod me_fn_rise.1 ∈ mTb ∧ Cond.selects me_fn_rise.1.cls me_fn_rise.1 me_fn_rise.1 ∈ mTb := ⟨(mm 598 (by decide +kernel) rfl), (mm 599 (by decide +kernel) rfl)⟩
theorem ca_je_riseAmong : mCal me_je_riseAmong := ⟨by decide +kernel, ⟨by decide, by decide⟩, by decide, (mm 604 (by decide +kernel) rfl), (mm 64 (by decide +kernel) rfl)⟩
theorem pa_je_riseAmong : (parseMethodDescriptor me_je_riseAmong.1.desc).map (fun d => d.parameters.length) = some 2 := by decide +kernel
theorem ii_je_riseAmong : Cond.instanceMethod me_je_riseAmong.1 ∈ mTb ∧ Cond.selects me_je_riseAmong.1.cls me_je_riseAmong.1 me_je_riseAmong.1 ∈ mTb := ⟨(mm 602 (by decide +kernel) rfl), (mm 603 (by decide +kernel) rfl)⟩
theorem ca_fn_share : mCal me_fn_share := ⟨by decide +kernel, ⟨by decide, by decide⟩, by decide, (mm 611 (by decide +kernel) rfl), (mm 47 (by decide +kernel) rfl)⟩
theorem pa_fn_share : (parseMethodDescriptor me_fn_share.1.desc).map (fun d => d.parameters.length) = some 2 := by decide +kernel
theorem ii_fn_share : Cond.instanceMethod me_fn_share.1 ∈ mTb ∧ Cond.selects me_fn_share.1.cls me_fn_share.1 me_fn_share.1 ∈ mTb := ⟨(mm 609 (by decide +kernel) rfl), (mm 610 (by decide +kernel) rfl)⟩
theorem ca_fn_minutes : mCal me_fn_minutes := ⟨by decide +kernel, ⟨by decide, by decide⟩, by decide, (mm 616 (by decide +kernel) rfl), (mm 47 (by decide +kernel) rfl)⟩
theorem pa_fn_minutes : (parseMethodDescriptor me_fn_minutes.1.desc).map (fun d => d.parameters.length) = some 1 := by decide +kernel
theorem ii_fn_minutes : Cond.instanceMethod me_fn_minutes.1 ∈ mTb ∧ Cond.selects me_fn_minutes.1.cls me_fn_minutes.1 me_fn_minutes.1 ∈ mTb := ⟨(mm 614 (by decide +kernel) rfl), (mm 615 (by decide +kernel) rfl)⟩
theorem ca_tk_passMinutes : mCal me_tk_passMinutes := ⟨by decide +kernel, ⟨by decide, by decide⟩, by decide, (mm 621 (by decide +kernel) rfl), (mm 56 (by decide +kernel) rfl)⟩
theorem pa_tk_passMinutes : (parseMethodDescriptor me_tk_passMinutes.1.desc).map (fun d => d.parameters.length) = some 1 := by decide +kernel
theorem ii_tk_passMinutes : Cond.instanceMethod me_tk_passMinutes.1 ∈ mTb ∧ Cond.selects me_tk_passMinutes.1.cls me_tk_passMinutes.1 me_tk_passMinutes.1 ∈ mTb := ⟨(mm 619 (by decide +kernel) rfl), (mm 620 (by decide +kernel) rfl)⟩
theorem ca_tk_withSpring : mCal me_tk_withSpring := ⟨by decide +kernel, ⟨by decide, by decide⟩, by decide, (mm 625 (by decide +kernel) rfl), (mm 56 (by decide +kernel) rfl)⟩
theorem pa_tk_withSpring : (parseMethodDescriptor me_tk_withSpring.1.desc).map (fun d => d.parameters.length) = some 1 := by decide +kernel
theorem ii_tk_withSpring : Cond.instanceMethod me_tk_withSpring.1 ∈ mTb ∧ Cond.selects me_tk_withSpring.1.cls me_tk_withSpring.1 me_tk_withSpring.1 ∈ mTb := ⟨(mm 623 (by decide +kernel) rfl), (mm 624 (by decide +kernel) rfl)⟩
theorem ca_tk_waterAfterMinute : mCal me_tk_waterAfterMinute := ⟨by decide +kernel, ⟨by decide, by decide⟩, by decide, (mm 632 (by decide +kernel) rfl), (mm 56 (by decide +kernel) rfl)⟩
theorem pa_tk_waterAfterMinute : (parseMethodDescriptor me_tk_waterAfterMinute.1.desc).map (fun d => d.parameters.length) = some 1 := by decide +kernel
theorem ii_tk_waterAfterMinute : Cond.instanceMethod me_tk_waterAfterMinute.1 ∈ mTb ∧ Cond.selects me_tk_waterAfterMinute.1.cls me_tk_waterAfterMinute.1 me_tk_waterAfterMinute.1 ∈ mTb := ⟨(mm 630 (by decide +kernel) rfl), (mm 631 (by decide +kernel) rfl)⟩
theorem ca_fn_lasts : mCal me_fn_lasts := ⟨by decide +kernel, ⟨by decide, by decide⟩, by decide, (mm 636 (by decide +kernel) rfl), (mm 47 (by decide +kernel) rfl)⟩
theorem pa_fn_lasts : (parseMethodDescriptor me_fn_lasts.1.desc).map (fun d => d.parameters.length) = some 1 := by decide +kernel
theorem ii_fn_lasts : Cond.instanceMethod me_fn_lasts.1 ∈ mTb ∧ Cond.selects me_fn_lasts.1.cls me_fn_lasts.1 me_fn_lasts.1 ∈ mTb := ⟨(mm 634 (by decide +kernel) rfl), (mm 635 (by decide +kernel) rfl)⟩
theorem ca_fn_view : mCal me_fn_view := ⟨by decide +kernel, ⟨by decide, by decide⟩, by decide, (mm 641 (by decide +kernel) rfl), (mm 47 (by decide +kernel) rfl)⟩
theorem pa_fn_view : (parseMethodDescriptor me_fn_view.1.desc).map (fun d => d.parameters.length) = some 4 := by decide +kernel
theorem ii_fn_view : Cond.instanceMethod me_fn_view.1 ∈ mTb ∧ Cond.selects me_fn_view.1.cls me_fn_view.1 me_fn_view.1 ∈ mTb := ⟨(mm 639 (by decide +kernel) rfl), (mm 640 (by decide +kernel) rfl)⟩
theorem ca_ga_allJets : mCal me_ga_allJets := ⟨by decide +kernel, ⟨by decide, by decide⟩, by decide, (mm 645 (by decide +kernel) rfl), (mm 48 (by decide +kernel) rfl)⟩
theorem pa_ga_allJets : (parseMethodDescriptor me_ga_allJets.1.desc).map (fun d => d.parameters.length) = some 0 := by decide +kernel
theorem ii_ga_allJets : Cond.instanceMethod me_ga_allJets.1 ∈ mTb ∧ Cond.selects me_ga_allJets.1.cls me_ga_allJets.1 me_ga_allJets.1 ∈ mTb := ⟨(mm 643 (by decide +kernel) rfl), (mm 644 (by decide +kernel) rfl)⟩
theorem ca_vw_init : mCal me_vw_init := ⟨by decide +kernel, ⟨by decide, by decide⟩, by decide, (mm 650 (by decide +kernel) rfl), (mm 65 (by decide +kernel) rfl)⟩
theorem pa_vw_init : (parseMethodDescriptor me_vw_init.1.desc).map (fun d => d.parameters.length) = some 4 := by decide +kernel
theorem ii_vw_init : Cond.instanceMethod me_vw_init.1 ∈ mTb ∧ me_vw_init.1.name = "<init>" ∧ me_vw_init.2.2.2 = none := ⟨(mm 649 (by decide +kernel) rfl), rfl, rfl⟩
theorem ca_fn_unview : mCal me_fn_unview := ⟨by decide +kernel, ⟨by decide, by decide⟩, by decide, (mm 676 (by decide +kernel) rfl), (mm 47 (by decide +kernel) rfl)⟩
theorem pa_fn_unview : (parseMethodDescriptor me_fn_unview.1.desc).map (fun d => d.parameters.length) = some 0 := by decide +kernel
theorem ii_fn_unview : Cond.instanceMethod me_fn_unview.1 ∈ mTb ∧ Cond.selects me_fn_unview.1.cls me_fn_unview.1 me_fn_unview.1 ∈ mTb := ⟨(mm 674 (by decide +kernel) rfl), (mm 675 (by decide +kernel) rfl)⟩
theorem ca_al_remove : mCal me_al_remove := ⟨by decide +kernel, ⟨by decide, by decide⟩, by decide, (mm 680 (by decide +kernel) rfl), (mm 51 (by decide +kernel) rfl)⟩
theorem pa_al_remove : (parseMethodDescriptor me_al_remove.1.desc).map (fun d => d.parameters.length) = some 1 := by decide +kernel
theorem ii_al_remove : Cond.instanceMethod me_al_remove.1 ∈ mTb ∧ Cond.selects me_al_remove.1.cls me_al_remove.1 me_al_remove.1 ∈ mTb := ⟨(mm 678 (by decide +kernel) rfl), (mm 679 (by decide +kernel) rfl)⟩
theorem ca_al_fastRemove : mCal me_al_fastRemove := ⟨by decide +kernel, ⟨by decide, by decide⟩, by decide, (mm 684 (by decide +kernel) rfl), (mm 51 (by decide +kernel) rfl)⟩
theorem pa_al_fastRemove : (parseMethodDescriptor me_al_fastRemove.1.desc).map (fun d => d.parameters.length) = some 2 := by decide +kernel
theorem ii_al_fastRemove : Cond.instanceMethod me_al_fastRemove.1 ∈ mTb ∧ Cond.selects me_al_fastRemove.1.cls me_al_fastRemove.1 me_al_fastRemove.1 ∈ mTb := ⟨(mm 683 (by decide +kernel) rfl), (mm 7 (by decide +kernel) rfl)⟩
theorem ca_fn_walk : mCal me_fn_walk := ⟨by decide +kernel, ⟨by decide, by decide⟩, by decide, (mm 689 (by decide +kernel) rfl), (mm 47 (by decide +kernel) rfl)⟩
theorem pa_fn_walk : (parseMethodDescriptor me_fn_walk.1.desc).map (fun d => d.parameters.length) = some 1 := by decide +kernel
theorem ii_fn_walk : Cond.instanceMethod me_fn_walk.1 ∈ mTb ∧ Cond.selects me_fn_walk.1.cls me_fn_walk.1 me_fn_walk.1 ∈ mTb := ⟨(mm 687 (by decide +kernel) rfl), (mm 688 (by decide +kernel) rfl)⟩
theorem ca_sr_isAhead : mCal me_sr_isAhead := ⟨by decide +kernel, ⟨by decide, by decide⟩, by decide, (mm 693 (by decide +kernel) rfl), (mm 52 (by decide +kernel) rfl)⟩
theorem pa_sr_isAhead : (parseMethodDescriptor me_sr_isAhead.1.desc).map (fun d => d.parameters.length) = some 0 := by decide +kernel
theorem ii_sr_isAhead : Cond.instanceMethod me_sr_isAhead.1 ∈ mTb ∧ Cond.selects me_sr_isAhead.1.cls me_sr_isAhead.1 me_sr_isAhead.1 ∈ mTb := ⟨(mm 691 (by decide +kernel) rfl), (mm 692 (by decide +kernel) rfl)⟩
theorem ca_sr_lastMinute : mCal me_sr_lastMinute := ⟨by decide +kernel, ⟨by decide, by decide⟩, by decide, (mm 697 (by decide +kernel) rfl), (mm 52 (by decide +kernel) rfl)⟩
theorem pa_sr_lastMinute : (parseMethodDescriptor me_sr_lastMinute.1.desc).map (fun d => d.parameters.length) = some 0 := by decide +kernel
theorem ii_sr_lastMinute : Cond.instanceMethod me_sr_lastMinute.1 ∈ mTb ∧ Cond.selects me_sr_lastMinute.1.cls me_sr_lastMinute.1 me_sr_lastMinute.1 ∈ mTb := ⟨(mm 696 (by decide +kernel) rfl), (mm 8 (by decide +kernel) rfl)⟩
theorem ca_al_isEmpty : mCal me_al_isEmpty := ⟨by decide +kernel, ⟨by decide, by decide⟩, by decide, (mm 701 (by decide +kernel) rfl), (mm 51 (by decide +kernel) rfl)⟩
theorem pa_al_isEmpty : (parseMethodDescriptor me_al_isEmpty.1.desc).map (fun d => d.parameters.length) = some 0 := by decide +kernel
theorem ii_al_isEmpty : Cond.instanceMethod me_al_isEmpty.1 ∈ mTb ∧ Cond.selects me_al_isEmpty.1.cls me_al_isEmpty.1 me_al_isEmpty.1 ∈ mTb := ⟨(mm 699 (by decide +kernel) rfl), (mm 700 (by decide +kernel) rfl)⟩
theorem ca_sr_go : mCal me_sr_go := ⟨by decide +kernel, ⟨by decide, by decide⟩, by decide, (mm 708 (by decide +kernel) rfl), (mm 52 (by decide +kernel) rfl)⟩
theorem pa_sr_go : (parseMethodDescriptor me_sr_go.1.desc).map (fun d => d.parameters.length) = some 1 := by decide +kernel
theorem ii_sr_go : Cond.instanceMethod me_sr_go.1 ∈ mTb ∧ Cond.selects me_sr_go.1.cls me_sr_go.1 me_sr_go.1 ∈ mTb := ⟨(mm 706 (by decide +kernel) rfl), (mm 707 (by decide +kernel) rfl)⟩
theorem ca_sr_begin : mCal me_sr_begin := ⟨by decide +kernel, ⟨by decide, by decide⟩, by decide, (mm 712 (by decide +kernel) rfl), (mm 52 (by decide +kernel) rfl)⟩
theorem pa_sr_begin : (parseMethodDescriptor me_sr_begin.1.desc).map (fun d => d.parameters.length) = some 0 := by decide +kernel
theorem ii_sr_begin : Cond.instanceMethod me_sr_begin.1 ∈ mTb ∧ Cond.selects me_sr_begin.1.cls me_sr_begin.1 me_sr_begin.1 ∈ mTb := ⟨(mm 711 (by decide +kernel) rfl), (mm 9 (by decide +kernel) rfl)⟩
theorem ca_sr_lookAtRises : mCal me_sr_lookAtRises := ⟨by decide +kernel, ⟨by decide, by decide⟩, by decide, (mm 720 (by decide +kernel) rfl), (mm 52 (by decide +kernel) rfl)⟩
theorem pa_sr_lookAtRises : (parseMethodDescriptor me_sr_lookAtRises.1.desc).map (fun d => d.parameters.length) = some 2 := by decide +kernel
theorem ii_sr_lookAtRises : Cond.instanceMethod me_sr_lookAtRises.1 ∈ mTb ∧ Cond.selects me_sr_lookAtRises.1.cls me_sr_lookAtRises.1 me_sr_lookAtRises.1 ∈ mTb := ⟨(mm 719 (by decide +kernel) rfl), (mm 10 (by decide +kernel) rfl)⟩
theorem ca_sr_passMinute : mCal me_sr_passMinute := ⟨by decide +kernel, ⟨by decide, by decide⟩, by decide, (mm 727 (by decide +kernel) rfl), (mm 52 (by decide +kernel) rfl)⟩
theorem pa_sr_passMinute : (parseMethodDescriptor me_sr_passMinute.1.desc).map (fun d => d.parameters.length) = some 0 := by decide +kernel
theorem ii_sr_passMinute : Cond.instanceMethod me_sr_passMinute.1 ∈ mTb ∧ Cond.selects me_sr_passMinute.1.cls me_sr_passMinute.1 me_sr_passMinute.1 ∈ mTb := ⟨(mm 726 (by decide +kernel) rfl), (mm 11 (by decide +kernel) rfl)⟩
theorem ca_fn_most : mCal me_fn_most := ⟨by decide +kernel, ⟨by decide, by decide⟩, by decide, (mm 733 (by decide +kernel) rfl), (mm 47 (by decide +kernel) rfl)⟩
theorem pa_fn_most : (parseMethodDescriptor me_fn_most.1.desc).map (fun d => d.parameters.length) = some 0 := by decide +kernel
theorem ii_fn_most : Cond.instanceMethod me_fn_most.1 ∈ mTb ∧ Cond.selects me_fn_most.1.cls me_fn_most.1 me_fn_most.1 ∈ mTb := ⟨(mm 731 (by decide +kernel) rfl), (mm 732 (by decide +kernel) rfl)⟩
theorem ca_fn_pace : mCal me_fn_pace := ⟨by decide +kernel, ⟨by decide, by decide⟩, by decide, (mm 737 (by decide +kernel) rfl), (mm 47 (by decide +kernel) rfl)⟩
theorem pa_fn_pace : (parseMethodDescriptor me_fn_pace.1.desc).map (fun d => d.parameters.length) = some 1 := by decide +kernel
theorem ii_fn_pace : Cond.instanceMethod me_fn_pace.1 ∈ mTb ∧ Cond.selects me_fn_pace.1.cls me_fn_pace.1 me_fn_pace.1 ∈ mTb := ⟨(mm 735 (by decide +kernel) rfl), (mm 736 (by decide +kernel) rfl)⟩
theorem ca_fn_tasks : mCal me_fn_tasks := ⟨by decide +kernel, ⟨by decide, by decide⟩, by decide, (mm 741 (by decide +kernel) rfl), (mm 47 (by decide +kernel) rfl)⟩
theorem pa_fn_tasks : (parseMethodDescriptor me_fn_tasks.1.desc).map (fun d => d.parameters.length) = some 0 := by decide +kernel
theorem ii_fn_tasks : Cond.instanceMethod me_fn_tasks.1 ∈ mTb ∧ Cond.selects me_fn_tasks.1.cls me_fn_tasks.1 me_fn_tasks.1 ∈ mTb := ⟨(mm 739 (by decide +kernel) rfl), (mm 740 (by decide +kernel) rfl)⟩
theorem ca_tl_build : mCal me_tl_build := ⟨by decide +kernel, ⟨by decide, by decide⟩, by decide, (mm 745 (by decide +kernel) rfl), (mm 53 (by decide +kernel) rfl)⟩
theorem pa_tl_build : (parseMethodDescriptor me_tl_build.1.desc).map (fun d => d.parameters.length) = some 0 := by decide +kernel
theorem ii_tl_build : Cond.instanceMethod me_tl_build.1 ∈ mTb ∧ Cond.selects me_tl_build.1.cls me_tl_build.1 me_tl_build.1 ∈ mTb := ⟨(mm 743 (by decide +kernel) rfl), (mm 744 (by decide +kernel) rfl)⟩
theorem ca_tl_addChange : mCal me_tl_addChange := ⟨by decide +kernel, ⟨by decide, by decide⟩, by decide, (mm 752 (by decide +kernel) rfl), (mm 53 (by decide +kernel) rfl)⟩
theorem pa_tl_addChange : (parseMethodDescriptor me_tl_addChange.1.desc).map (fun d => d.parameters.length) = some 3 := by decide +kernel
theorem ii_tl_addChange : Cond.instanceMethod me_tl_addChange.1 ∈ mTb ∧ Cond.selects me_tl_addChange.1.cls me_tl_addChange.1 me_tl_addChange.1 ∈ mTb := ⟨(mm 751 (by decide +kernel) rfl), (mm 12 (by decide +kernel) rfl)⟩
theorem ca_fn_task : mCal me_fn_task := ⟨by decide +kernel, ⟨by decide, by decide⟩, by decide, (mm 758 (by decide +kernel) rfl), (mm 47 (by decide +kernel) rfl)⟩
theorem pa_fn_task : (parseMethodDescriptor me_fn_task.1.desc).map (fun d => d.parameters.length) = some 2 := by decide +kernel
theorem ii_fn_task : Cond.instanceMethod me_fn_task.1 ∈ mTb ∧ Cond.selects me_fn_task.1.cls me_fn_task.1 me_fn_task.1 ∈ mTb := ⟨(mm 756 (by decide +kernel) rfl), (mm 757 (by decide +kernel) rfl)⟩
theorem ca_tl_tell : mCal me_tl_tell := ⟨by decide +kernel, ⟨by decide, by decide⟩, by decide, (mm 762 (by decide +kernel) rfl), (mm 53 (by decide +kernel) rfl)⟩
theorem pa_tl_tell : (parseMethodDescriptor me_tl_tell.1.desc).map (fun d => d.parameters.length) = some 2 := by decide +kernel
theorem ii_tl_tell : Cond.instanceMethod me_tl_tell.1 ∈ mTb ∧ Cond.selects me_tl_tell.1.cls me_tl_tell.1 me_tl_tell.1 ∈ mTb := ⟨(mm 760 (by decide +kernel) rfl), (mm 761 (by decide +kernel) rfl)⟩
theorem ca_fn_boys : mCal me_fn_boys := ⟨by decide +kernel, ⟨by decide, by decide⟩, by decide, (mm 766 (by decide +kernel) rfl), (mm 47 (by decide +kernel) rfl)⟩
theorem pa_fn_boys : (parseMethodDescriptor me_fn_boys.1.desc).map (fun d => d.parameters.length) = some 0 := by decide +kernel
theorem ii_fn_boys : Cond.instanceMethod me_fn_boys.1 ∈ mTb ∧ Cond.selects me_fn_boys.1.cls me_fn_boys.1 me_fn_boys.1 ∈ mTb := ⟨(mm 764 (by decide +kernel) rfl), (mm 765 (by decide +kernel) rfl)⟩
theorem ca_tl_fewestBoys : mCal me_tl_fewestBoys := ⟨by decide +kernel, ⟨by decide, by decide⟩, by decide, (mm 770 (by decide +kernel) rfl), (mm 53 (by decide +kernel) rfl)⟩
theorem pa_tl_fewestBoys : (parseMethodDescriptor me_tl_fewestBoys.1.desc).map (fun d => d.parameters.length) = some 1 := by decide +kernel
theorem ii_tl_fewestBoys : Cond.instanceMethod me_tl_fewestBoys.1 ∈ mTb ∧ Cond.selects me_tl_fewestBoys.1.cls me_tl_fewestBoys.1 me_tl_fewestBoys.1 ∈ mTb := ⟨(mm 768 (by decide +kernel) rfl), (mm 769 (by decide +kernel) rfl)⟩
theorem ca_tl_mostApartAhead : mCal me_tl_mostApartAhead := ⟨by decide +kernel, ⟨by decide, by decide⟩, by decide, (mm 774 (by decide +kernel) rfl), (mm 53 (by decide +kernel) rfl)⟩
theorem pa_tl_mostApartAhead : (parseMethodDescriptor me_tl_mostApartAhead.1.desc).map (fun d => d.parameters.length) = some 2 := by decide +kernel
theorem ii_tl_mostApartAhead : Cond.instanceMethod me_tl_mostApartAhead.1 ∈ mTb ∧ Cond.selects me_tl_mostApartAhead.1.cls me_tl_mostApartAhead.1 me_tl_mostApartAhead.1 ∈ mTb := ⟨(mm 773 (by decide +kernel) rfl), (mm 13 (by decide +kernel) rfl)⟩
theorem ca_fn_gauge : mCal me_fn_gauge := ⟨by decide +kernel, ⟨by decide, by decide⟩, by decide, (mm 782 (by decide +kernel) rfl), (mm 47 (by decide +kernel) rfl)⟩
theorem pa_fn_gauge : (parseMethodDescriptor me_fn_gauge.1.desc).map (fun d => d.parameters.length) = some 2 := by decide +kernel
theorem ii_fn_gauge : Cond.instanceMethod me_fn_gauge.1 ∈ mTb ∧ Cond.selects me_fn_gauge.1.cls me_fn_gauge.1 me_fn_gauge.1 ∈ mTb := ⟨(mm 780 (by decide +kernel) rfl), (mm 781 (by decide +kernel) rfl)⟩
theorem ca_fn_tol : mCal me_fn_tol := ⟨by decide +kernel, ⟨by decide, by decide⟩, by decide, (mm 786 (by decide +kernel) rfl), (mm 47 (by decide +kernel) rfl)⟩
theorem pa_fn_tol : (parseMethodDescriptor me_fn_tol.1.desc).map (fun d => d.parameters.length) = some 1 := by decide +kernel
theorem ii_fn_tol : Cond.instanceMethod me_fn_tol.1 ∈ mTb ∧ Cond.selects me_fn_tol.1.cls me_fn_tol.1 me_fn_tol.1 ∈ mTb := ⟨(mm 784 (by decide +kernel) rfl), (mm 785 (by decide +kernel) rfl)⟩
theorem ca_fn_explain : mCal me_fn_explain := ⟨by decide +kernel, ⟨by decide, by decide⟩, by decide, (mm 790 (by decide +kernel) rfl), (mm 47 (by decide +kernel) rfl)⟩
theorem pa_fn_explain : (parseMethodDescriptor me_fn_explain.1.desc).map (fun d => d.parameters.length) = some 0 := by decide +kernel
theorem ii_fn_explain : Cond.instanceMethod me_fn_explain.1 ∈ mTb ∧ Cond.selects me_fn_explain.1.cls me_fn_explain.1 me_fn_explain.1 ∈ mTb := ⟨(mm 788 (by decide +kernel) rfl), (mm 789 (by decide +kernel) rfl)⟩
theorem ca_lk_seek : mCal me_lk_seek := ⟨by decide +kernel, ⟨by decide, by decide⟩, by decide, (mm 794 (by decide +kernel) rfl), (mm 54 (by decide +kernel) rfl)⟩
theorem pa_lk_seek : (parseMethodDescriptor me_lk_seek.1.desc).map (fun d => d.parameters.length) = some 0 := by decide +kernel
theorem ii_lk_seek : Cond.instanceMethod me_lk_seek.1 ∈ mTb ∧ Cond.selects me_lk_seek.1.cls me_lk_seek.1 me_lk_seek.1 ∈ mTb := ⟨(mm 792 (by decide +kernel) rfl), (mm 793 (by decide +kernel) rfl)⟩
theorem ca_lk_forgetFound : mCal me_lk_forgetFound := ⟨by decide +kernel, ⟨by decide, by decide⟩, by decide, (mm 798 (by decide +kernel) rfl), (mm 54 (by decide +kernel) rfl)⟩
theorem pa_lk_forgetFound : (parseMethodDescriptor me_lk_forgetFound.1.desc).map (fun d => d.parameters.length) = some 0 := by decide +kernel
theorem ii_lk_forgetFound : Cond.instanceMethod me_lk_forgetFound.1 ∈ mTb ∧ Cond.selects me_lk_forgetFound.1.cls me_lk_forgetFound.1 me_lk_forgetFound.1 ∈ mTb := ⟨(mm 797 (by decide +kernel) rfl), (mm 14 (by decide +kernel) rfl)⟩
theorem ca_lk_isAnyRead : mCal me_lk_isAnyRead := ⟨by decide +kernel, ⟨by decide, by decide⟩, by decide, (mm 802 (by decide +kernel) rfl), (mm 54 (by decide +kernel) rfl)⟩
theorem pa_lk_isAnyRead : (parseMethodDescriptor me_lk_isAnyRead.1.desc).map (fun d => d.parameters.length) = some 0 := by decide +kernel
theorem ii_lk_isAnyRead : Cond.instanceMethod me_lk_isAnyRead.1 ∈ mTb ∧ Cond.selects me_lk_isAnyRead.1.cls me_lk_isAnyRead.1 me_lk_isAnyRead.1 ∈ mTb := ⟨(mm 801 (by decide +kernel) rfl), (mm 15 (by decide +kernel) rfl)⟩
theorem ca_lk_misses : mCal me_lk_misses := ⟨by decide +kernel, ⟨by decide, by decide⟩, by decide, (mm 809 (by decide +kernel) rfl), (mm 54 (by decide +kernel) rfl)⟩
theorem pa_lk_misses : (parseMethodDescriptor me_lk_misses.1.desc).map (fun d => d.parameters.length) = some 0 := by decide +kernel
theorem ii_lk_misses : Cond.instanceMethod me_lk_misses.1 ∈ mTb ∧ Cond.selects me_lk_misses.1.cls me_lk_misses.1 me_lk_misses.1 ∈ mTb := ⟨(mm 808 (by decide +kernel) rfl), (mm 16 (by decide +kernel) rfl)⟩
theorem ca_lk_explainsAlone : mCal me_lk_explainsAlone := ⟨by decide +kernel, ⟨by decide, by decide⟩, by decide, (mm 816 (by decide +kernel) rfl), (mm 54 (by decide +kernel) rfl)⟩
theorem pa_lk_explainsAlone : (parseMethodDescriptor me_lk_explainsAlone.1.desc).map (fun d => d.parameters.length) = some 1 := by decide +kernel
theorem ii_lk_explainsAlone : Cond.instanceMethod me_lk_explainsAlone.1 ∈ mTb ∧ Cond.selects me_lk_explainsAlone.1.cls me_lk_explainsAlone.1 me_lk_explainsAlone.1 ∈ mTb := ⟨(mm 815 (by decide +kernel) rfl), (mm 17 (by decide +kernel) rfl)⟩
theorem ca_lk_explainTogether : mCal me_lk_explainTogether := ⟨by decide +kernel, ⟨by decide, by decide⟩, by decide, (mm 820 (by decide +kernel) rfl), (mm 54 (by decide +kernel) rfl)⟩
theorem pa_lk_explainTogether : (parseMethodDescriptor me_lk_explainTogether.1.desc).map (fun d => d.parameters.length) = some 2 := by decide +kernel
theorem ii_lk_explainTogether : Cond.instanceMethod me_lk_explainTogether.1 ∈ mTb ∧ Cond.selects me_lk_explainTogether.1.cls me_lk_explainTogether.1 me_lk_explainTogether.1 ∈ mTb := ⟨(mm 819 (by decide +kernel) rfl), (mm 18 (by decide +kernel) rfl)⟩
theorem ca_lk_keepTwo : mCal me_lk_keepTwo := ⟨by decide +kernel, ⟨by decide, by decide⟩, by decide, (mm 824 (by decide +kernel) rfl), (mm 54 (by decide +kernel) rfl)⟩
theorem pa_lk_keepTwo : (parseMethodDescriptor me_lk_keepTwo.1.desc).map (fun d => d.parameters.length) = some 2 := by decide +kernel
theorem ii_lk_keepTwo : Cond.instanceMethod me_lk_keepTwo.1 ∈ mTb ∧ Cond.selects me_lk_keepTwo.1.cls me_lk_keepTwo.1 me_lk_keepTwo.1 ∈ mTb := ⟨(mm 823 (by decide +kernel) rfl), (mm 19 (by decide +kernel) rfl)⟩
theorem ca_fn_explained : mCal me_fn_explained := ⟨by decide +kernel, ⟨by decide, by decide⟩, by decide, (mm 828 (by decide +kernel) rfl), (mm 47 (by decide +kernel) rfl)⟩
theorem pa_fn_explained : (parseMethodDescriptor me_fn_explained.1.desc).map (fun d => d.parameters.length) = some 1 := by decide +kernel
theorem ii_fn_explained : Cond.instanceMethod me_fn_explained.1 ∈ mTb ∧ Cond.selects me_fn_explained.1.cls me_fn_explained.1 me_fn_explained.1 ∈ mTb := ⟨(mm 826 (by decide +kernel) rfl), (mm 827 (by decide +kernel) rfl)⟩
theorem ca_fn_rivals : mCal me_fn_rivals := ⟨by decide +kernel, ⟨by decide, by decide⟩, by decide, (mm 832 (by decide +kernel) rfl), (mm 47 (by decide +kernel) rfl)⟩
theorem pa_fn_rivals : (parseMethodDescriptor me_fn_rivals.1.desc).map (fun d => d.parameters.length) = some 0 := by decide +kernel
theorem ii_fn_rivals : Cond.instanceMethod me_fn_rivals.1 ∈ mTb ∧ Cond.selects me_fn_rivals.1.cls me_fn_rivals.1 me_fn_rivals.1 ∈ mTb := ⟨(mm 830 (by decide +kernel) rfl), (mm 831 (by decide +kernel) rfl)⟩
theorem ca_lk_howManyAlone : mCal me_lk_howManyAlone := ⟨by decide +kernel, ⟨by decide, by decide⟩, by decide, (mm 836 (by decide +kernel) rfl), (mm 54 (by decide +kernel) rfl)⟩
theorem pa_lk_howManyAlone : (parseMethodDescriptor me_lk_howManyAlone.1.desc).map (fun d => d.parameters.length) = some 0 := by decide +kernel
theorem ii_lk_howManyAlone : Cond.instanceMethod me_lk_howManyAlone.1 ∈ mTb ∧ Cond.selects me_lk_howManyAlone.1.cls me_lk_howManyAlone.1 me_lk_howManyAlone.1 ∈ mTb := ⟨(mm 834 (by decide +kernel) rfl), (mm 835 (by decide +kernel) rfl)⟩
theorem ca_fn_empty : mCal me_fn_empty := ⟨by decide +kernel, ⟨by decide, by decide⟩, by decide, (mm 840 (by decide +kernel) rfl), (mm 47 (by decide +kernel) rfl)⟩
theorem pa_fn_empty : (parseMethodDescriptor me_fn_empty.1.desc).map (fun d => d.parameters.length) = some 1 := by decide +kernel
theorem ii_fn_empty : Cond.instanceMethod me_fn_empty.1 ∈ mTb ∧ Cond.selects me_fn_empty.1.cls me_fn_empty.1 me_fn_empty.1 ∈ mTb := ⟨(mm 838 (by decide +kernel) rfl), (mm 839 (by decide +kernel) rfl)⟩
theorem ca_ga_mayBeEmptied : mCal me_ga_mayBeEmptied := ⟨by decide +kernel, ⟨by decide, by decide⟩, by decide, (mm 844 (by decide +kernel) rfl), (mm 48 (by decide +kernel) rfl)⟩
theorem pa_ga_mayBeEmptied : (parseMethodDescriptor me_ga_mayBeEmptied.1.desc).map (fun d => d.parameters.length) = some 1 := by decide +kernel
theorem ii_ga_mayBeEmptied : Cond.instanceMethod me_ga_mayBeEmptied.1 ∈ mTb ∧ Cond.selects me_ga_mayBeEmptied.1.cls me_ga_mayBeEmptied.1 me_ga_mayBeEmptied.1 ∈ mTb := ⟨(mm 842 (by decide +kernel) rfl), (mm 843 (by decide +kernel) rfl)⟩
theorem ca_fn_fill : mCal me_fn_fill := ⟨by decide +kernel, ⟨by decide, by decide⟩, by decide, (mm 848 (by decide +kernel) rfl), (mm 47 (by decide +kernel) rfl)⟩
theorem pa_fn_fill : (parseMethodDescriptor me_fn_fill.1.desc).map (fun d => d.parameters.length) = some 1 := by decide +kernel
theorem ii_fn_fill : Cond.instanceMethod me_fn_fill.1 ∈ mTb ∧ Cond.selects me_fn_fill.1.cls me_fn_fill.1 me_fn_fill.1 ∈ mTb := ⟨(mm 846 (by decide +kernel) rfl), (mm 847 (by decide +kernel) rfl)⟩
theorem ca_fn_order : mCal me_fn_order := ⟨by decide +kernel, ⟨by decide, by decide⟩, by decide, (mm 852 (by decide +kernel) rfl), (mm 47 (by decide +kernel) rfl)⟩
theorem pa_fn_order : (parseMethodDescriptor me_fn_order.1.desc).map (fun d => d.parameters.length) = some 1 := by decide +kernel
theorem ii_fn_order : Cond.instanceMethod me_fn_order.1 ∈ mTb ∧ Cond.selects me_fn_order.1.cls me_fn_order.1 me_fn_order.1 ∈ mTb := ⟨(mm 850 (by decide +kernel) rfl), (mm 851 (by decide +kernel) rfl)⟩
theorem ca_ga_jointInOrder : mCal me_ga_jointInOrder := ⟨by decide +kernel, ⟨by decide, by decide⟩, by decide, (mm 856 (by decide +kernel) rfl), (mm 48 (by decide +kernel) rfl)⟩
theorem pa_ga_jointInOrder : (parseMethodDescriptor me_ga_jointInOrder.1.desc).map (fun d => d.parameters.length) = some 1 := by decide +kernel
theorem ii_ga_jointInOrder : Cond.instanceMethod me_ga_jointInOrder.1 ∈ mTb ∧ Cond.selects me_ga_jointInOrder.1.cls me_ga_jointInOrder.1 me_ga_jointInOrder.1 ∈ mTb := ⟨(mm 854 (by decide +kernel) rfl), (mm 855 (by decide +kernel) rfl)⟩
theorem ca_ga_beginOrder : mCal me_ga_beginOrder := ⟨by decide +kernel, ⟨by decide, by decide⟩, by decide, (mm 860 (by decide +kernel) rfl), (mm 48 (by decide +kernel) rfl)⟩
theorem pa_ga_beginOrder : (parseMethodDescriptor me_ga_beginOrder.1.desc).map (fun d => d.parameters.length) = some 0 := by decide +kernel
theorem ii_ga_beginOrder : Cond.instanceMethod me_ga_beginOrder.1 ∈ mTb ∧ Cond.selects me_ga_beginOrder.1.cls me_ga_beginOrder.1 me_ga_beginOrder.1 ∈ mTb := ⟨(mm 859 (by decide +kernel) rfl), (mm 20 (by decide +kernel) rfl)⟩
theorem ca_ga_nextInOrder : mCal me_ga_nextInOrder := ⟨by decide +kernel, ⟨by decide, by decide⟩, by decide, (mm 864 (by decide +kernel) rfl), (mm 48 (by decide +kernel) rfl)⟩
theorem pa_ga_nextInOrder : (parseMethodDescriptor me_ga_nextInOrder.1.desc).map (fun d => d.parameters.length) = some 0 := by decide +kernel
theorem ii_ga_nextInOrder : Cond.instanceMethod me_ga_nextInOrder.1 ∈ mTb ∧ Cond.selects me_ga_nextInOrder.1.cls me_ga_nextInOrder.1 me_ga_nextInOrder.1 ∈ mTb := ⟨(mm 863 (by decide +kernel) rfl), (mm 21 (by decide +kernel) rfl)⟩
theorem ca_fn_tankOf : mCal me_fn_tankOf := ⟨by decide +kernel, ⟨by decide, by decide⟩, by decide, (mm 868 (by decide +kernel) rfl), (mm 47 (by decide +kernel) rfl)⟩
theorem pa_fn_tankOf : (parseMethodDescriptor me_fn_tankOf.1.desc).map (fun d => d.parameters.length) = some 2 := by decide +kernel
theorem ii_fn_tankOf : Cond.instanceMethod me_fn_tankOf.1 ∈ mTb ∧ Cond.selects me_fn_tankOf.1.cls me_fn_tankOf.1 me_fn_tankOf.1 ∈ mTb := ⟨(mm 866 (by decide +kernel) rfl), (mm 867 (by decide +kernel) rfl)⟩
theorem ca_fn_jointOf : mCal me_fn_jointOf := ⟨by decide +kernel, ⟨by decide, by decide⟩, by decide, (mm 873 (by decide +kernel) rfl), (mm 47 (by decide +kernel) rfl)⟩
theorem pa_fn_jointOf : (parseMethodDescriptor me_fn_jointOf.1.desc).map (fun d => d.parameters.length) = some 2 := by decide +kernel
theorem ii_fn_jointOf : Cond.instanceMethod me_fn_jointOf.1 ∈ mTb ∧ Cond.selects me_fn_jointOf.1.cls me_fn_jointOf.1 me_fn_jointOf.1 ∈ mTb := ⟨(mm 871 (by decide +kernel) rfl), (mm 872 (by decide +kernel) rfl)⟩
theorem ca_fn_count : mCal me_fn_count := ⟨by decide +kernel, ⟨by decide, by decide⟩, by decide, (mm 878 (by decide +kernel) rfl), (mm 47 (by decide +kernel) rfl)⟩
theorem pa_fn_count : (parseMethodDescriptor me_fn_count.1.desc).map (fun d => d.parameters.length) = some 1 := by decide +kernel
theorem ii_fn_count : Cond.instanceMethod me_fn_count.1 ∈ mTb ∧ Cond.selects me_fn_count.1.cls me_fn_count.1 me_fn_count.1 ∈ mTb := ⟨(mm 876 (by decide +kernel) rfl), (mm 877 (by decide +kernel) rfl)⟩
theorem ca_it_bitCount : mCal me_it_bitCount := ⟨by decide +kernel, ⟨by decide, by decide⟩, by decide, (mm 881 (by decide +kernel) rfl), (mm 66 (by decide +kernel) rfl)⟩
theorem pa_it_bitCount : (parseMethodDescriptor me_it_bitCount.1.desc).map (fun d => d.parameters.length) = some 1 := by decide +kernel
theorem is_it_bitCount : Cond.static me_it_bitCount.1 ∈ mTb := (mm 880 (by decide +kernel) rfl)
theorem ca_ga_emptyPipes : mCal me_ga_emptyPipes := ⟨by decide +kernel, ⟨by decide, by decide⟩, by decide, (mm 888 (by decide +kernel) rfl), (mm 48 (by decide +kernel) rfl)⟩
theorem pa_ga_emptyPipes : (parseMethodDescriptor me_ga_emptyPipes.1.desc).map (fun d => d.parameters.length) = some 0 := by decide +kernel
theorem ii_ga_emptyPipes : Cond.instanceMethod me_ga_emptyPipes.1 ∈ mTb ∧ Cond.selects me_ga_emptyPipes.1.cls me_ga_emptyPipes.1 me_ga_emptyPipes.1 ∈ mTb := ⟨(mm 886 (by decide +kernel) rfl), (mm 887 (by decide +kernel) rfl)⟩
theorem ca_fn_refusalsOf : mCal me_fn_refusalsOf := ⟨by decide +kernel, ⟨by decide, by decide⟩, by decide, (mm 892 (by decide +kernel) rfl), (mm 47 (by decide +kernel) rfl)⟩
theorem pa_fn_refusalsOf : (parseMethodDescriptor me_fn_refusalsOf.1.desc).map (fun d => d.parameters.length) = some 1 := by decide +kernel
theorem ii_fn_refusalsOf : Cond.instanceMethod me_fn_refusalsOf.1 ∈ mTb ∧ Cond.selects me_fn_refusalsOf.1.cls me_fn_refusalsOf.1 me_fn_refusalsOf.1 ∈ mTb := ⟨(mm 891 (by decide +kernel) rfl), (mm 22 (by decide +kernel) rfl)⟩
theorem ca_fm_init : mCal me_fm_init := ⟨by decide +kernel, ⟨by decide, by decide⟩, by decide, (mm 897 (by decide +kernel) rfl), (mm 55 (by decide +kernel) rfl)⟩
theorem pa_fm_init : (parseMethodDescriptor me_fm_init.1.desc).map (fun d => d.parameters.length) = some 0 := by decide +kernel
theorem ii_fm_init : Cond.instanceMethod me_fm_init.1 ∈ mTb ∧ me_fm_init.1.name = "<init>" ∧ me_fm_init.2.2.2 = none := ⟨(mm 896 (by decide +kernel) rfl), rfl, rfl⟩
theorem ca_fm_tank : mCal me_fm_tank := ⟨by decide +kernel, ⟨by decide, by decide⟩, by decide, (mm 1093 (by decide +kernel) rfl), (mm 55 (by decide +kernel) rfl)⟩
theorem pa_fm_tank : (parseMethodDescriptor me_fm_tank.1.desc).map (fun d => d.parameters.length) = some 4 := by decide +kernel
theorem ii_fm_tank : Cond.instanceMethod me_fm_tank.1 ∈ mTb ∧ Cond.selects me_fm_tank.1.cls me_fm_tank.1 me_fm_tank.1 ∈ mTb := ⟨(mm 1091 (by decide +kernel) rfl), (mm 1092 (by decide +kernel) rfl)⟩
theorem ca_fm_refuse : mCal me_fm_refuse := ⟨by decide +kernel, ⟨by decide, by decide⟩, by decide, (mm 1097 (by decide +kernel) rfl), (mm 55 (by decide +kernel) rfl)⟩
theorem pa_fm_refuse : (parseMethodDescriptor me_fm_refuse.1.desc).map (fun d => d.parameters.length) = some 1 := by decide +kernel
theorem ii_fm_refuse : Cond.instanceMethod me_fm_refuse.1 ∈ mTb ∧ Cond.selects me_fm_refuse.1.cls me_fm_refuse.1 me_fm_refuse.1 ∈ mTb := ⟨(mm 1096 (by decide +kernel) rfl), (mm 23 (by decide +kernel) rfl)⟩
theorem ca_fm_set : mCal me_fm_set := ⟨by decide +kernel, ⟨by decide, by decide⟩, by decide, (mm 1101 (by decide +kernel) rfl), (mm 55 (by decide +kernel) rfl)⟩
theorem pa_fm_set : (parseMethodDescriptor me_fm_set.1.desc).map (fun d => d.parameters.length) = some 3 := by decide +kernel
theorem ii_fm_set : Cond.instanceMethod me_fm_set.1 ∈ mTb ∧ Cond.selects me_fm_set.1.cls me_fm_set.1 me_fm_set.1 ∈ mTb := ⟨(mm 1099 (by decide +kernel) rfl), (mm 1100 (by decide +kernel) rfl)⟩
theorem ca_fm_isIn : mCal me_fm_isIn := ⟨by decide +kernel, ⟨by decide, by decide⟩, by decide, (mm 1104 (by decide +kernel) rfl), (mm 55 (by decide +kernel) rfl)⟩
theorem pa_fm_isIn : (parseMethodDescriptor me_fm_isIn.1.desc).map (fun d => d.parameters.length) = some 2 := by decide +kernel
theorem is_fm_isIn : Cond.static me_fm_isIn.1 ∈ mTb := (mm 1103 (by decide +kernel) rfl)
theorem ca_fm_wrong : mCal me_fm_wrong := ⟨by decide +kernel, ⟨by decide, by decide⟩, by decide, (mm 1107 (by decide +kernel) rfl), (mm 55 (by decide +kernel) rfl)⟩
theorem pa_fm_wrong : (parseMethodDescriptor me_fm_wrong.1.desc).map (fun d => d.parameters.length) = some 3 := by decide +kernel
theorem is_fm_wrong : Cond.static me_fm_wrong.1 ∈ mTb := (mm 1106 (by decide +kernel) rfl)
theorem ca_fm_changes : mCal me_fm_changes := ⟨by decide +kernel, ⟨by decide, by decide⟩, by decide, (mm 1111 (by decide +kernel) rfl), (mm 55 (by decide +kernel) rfl)⟩
theorem pa_fm_changes : (parseMethodDescriptor me_fm_changes.1.desc).map (fun d => d.parameters.length) = some 0 := by decide +kernel
theorem ii_fm_changes : Cond.instanceMethod me_fm_changes.1 ∈ mTb ∧ Cond.selects me_fm_changes.1.cls me_fm_changes.1 me_fm_changes.1 ∈ mTb := ⟨(mm 1110 (by decide +kernel) rfl), (mm 24 (by decide +kernel) rfl)⟩
theorem ca_fm_joint : mCal me_fm_joint := ⟨by decide +kernel, ⟨by decide, by decide⟩, by decide, (mm 1115 (by decide +kernel) rfl), (mm 55 (by decide +kernel) rfl)⟩
theorem pa_fm_joint : (parseMethodDescriptor me_fm_joint.1.desc).map (fun d => d.parameters.length) = some 5 := by decide +kernel
theorem ii_fm_joint : Cond.instanceMethod me_fm_joint.1 ∈ mTb ∧ Cond.selects me_fm_joint.1.cls me_fm_joint.1 me_fm_joint.1 ∈ mTb := ⟨(mm 1113 (by decide +kernel) rfl), (mm 1114 (by decide +kernel) rfl)⟩
theorem ca_fm_jet : mCal me_fm_jet := ⟨by decide +kernel, ⟨by decide, by decide⟩, by decide, (mm 1119 (by decide +kernel) rfl), (mm 55 (by decide +kernel) rfl)⟩
theorem pa_fm_jet : (parseMethodDescriptor me_fm_jet.1.desc).map (fun d => d.parameters.length) = some 2 := by decide +kernel
theorem ii_fm_jet : Cond.instanceMethod me_fm_jet.1 ∈ mTb ∧ Cond.selects me_fm_jet.1.cls me_fm_jet.1 me_fm_jet.1 ∈ mTb := ⟨(mm 1117 (by decide +kernel) rfl), (mm 1118 (by decide +kernel) rfl)⟩
theorem ca_fm_isJoint : mCal me_fm_isJoint := ⟨by decide +kernel, ⟨by decide, by decide⟩, by decide, (mm 1123 (by decide +kernel) rfl), (mm 55 (by decide +kernel) rfl)⟩
theorem pa_fm_isJoint : (parseMethodDescriptor me_fm_isJoint.1.desc).map (fun d => d.parameters.length) = some 1 := by decide +kernel
theorem ii_fm_isJoint : Cond.instanceMethod me_fm_isJoint.1 ∈ mTb ∧ Cond.selects me_fm_isJoint.1.cls me_fm_isJoint.1 me_fm_isJoint.1 ∈ mTb := ⟨(mm 1122 (by decide +kernel) rfl), (mm 25 (by decide +kernel) rfl)⟩
theorem ca_fm_play : mCal me_fm_play := ⟨by decide +kernel, ⟨by decide, by decide⟩, by decide, (mm 1127 (by decide +kernel) rfl), (mm 55 (by decide +kernel) rfl)⟩
theorem pa_fm_play : (parseMethodDescriptor me_fm_play.1.desc).map (fun d => d.parameters.length) = some 2 := by decide +kernel
theorem ii_fm_play : Cond.instanceMethod me_fm_play.1 ∈ mTb ∧ Cond.selects me_fm_play.1.cls me_fm_play.1 me_fm_play.1 ∈ mTb := ⟨(mm 1125 (by decide +kernel) rfl), (mm 1126 (by decide +kernel) rfl)⟩
theorem ca_fm_isJet : mCal me_fm_isJet := ⟨by decide +kernel, ⟨by decide, by decide⟩, by decide, (mm 1131 (by decide +kernel) rfl), (mm 55 (by decide +kernel) rfl)⟩
theorem pa_fm_isJet : (parseMethodDescriptor me_fm_isJet.1.desc).map (fun d => d.parameters.length) = some 1 := by decide +kernel
theorem ii_fm_isJet : Cond.instanceMethod me_fm_isJet.1 ∈ mTb ∧ Cond.selects me_fm_isJet.1.cls me_fm_isJet.1 me_fm_isJet.1 ∈ mTb := ⟨(mm 1130 (by decide +kernel) rfl), (mm 26 (by decide +kernel) rfl)⟩
theorem ca_fm_isCut : mCal me_fm_isCut := ⟨by decide +kernel, ⟨by decide, by decide⟩, by decide, (mm 1135 (by decide +kernel) rfl), (mm 55 (by decide +kernel) rfl)⟩
theorem pa_fm_isCut : (parseMethodDescriptor me_fm_isCut.1.desc).map (fun d => d.parameters.length) = some 1 := by decide +kernel
theorem ii_fm_isCut : Cond.instanceMethod me_fm_isCut.1 ∈ mTb ∧ Cond.selects me_fm_isCut.1.cls me_fm_isCut.1 me_fm_isCut.1 ∈ mTb := ⟨(mm 1134 (by decide +kernel) rfl), (mm 27 (by decide +kernel) rfl)⟩
theorem ca_fm_pipe : mCal me_fm_pipe := ⟨by decide +kernel, ⟨by decide, by decide⟩, by decide, (mm 1139 (by decide +kernel) rfl), (mm 55 (by decide +kernel) rfl)⟩
theorem pa_fm_pipe : (parseMethodDescriptor me_fm_pipe.1.desc).map (fun d => d.parameters.length) = some 2 := by decide +kernel
theorem ii_fm_pipe : Cond.instanceMethod me_fm_pipe.1 ∈ mTb ∧ Cond.selects me_fm_pipe.1.cls me_fm_pipe.1 me_fm_pipe.1 ∈ mTb := ⟨(mm 1137 (by decide +kernel) rfl), (mm 1138 (by decide +kernel) rfl)⟩
theorem ca_fm_leak : mCal me_fm_leak := ⟨by decide +kernel, ⟨by decide, by decide⟩, by decide, (mm 1143 (by decide +kernel) rfl), (mm 55 (by decide +kernel) rfl)⟩
theorem pa_fm_leak : (parseMethodDescriptor me_fm_leak.1.desc).map (fun d => d.parameters.length) = some 2 := by decide +kernel
theorem ii_fm_leak : Cond.instanceMethod me_fm_leak.1 ∈ mTb ∧ Cond.selects me_fm_leak.1.cls me_fm_leak.1 me_fm_leak.1 ∈ mTb := ⟨(mm 1141 (by decide +kernel) rfl), (mm 1142 (by decide +kernel) rfl)⟩
theorem ca_fm_flow : mCal me_fm_flow := ⟨by decide +kernel, ⟨by decide, by decide⟩, by decide, (mm 1147 (by decide +kernel) rfl), (mm 55 (by decide +kernel) rfl)⟩
theorem pa_fm_flow : (parseMethodDescriptor me_fm_flow.1.desc).map (fun d => d.parameters.length) = some 1 := by decide +kernel
theorem ii_fm_flow : Cond.instanceMethod me_fm_flow.1 ∈ mTb ∧ Cond.selects me_fm_flow.1.cls me_fm_flow.1 me_fm_flow.1 ∈ mTb := ⟨(mm 1145 (by decide +kernel) rfl), (mm 1146 (by decide +kernel) rfl)⟩
theorem ca_fm_sees : mCal me_fm_sees := ⟨by decide +kernel, ⟨by decide, by decide⟩, by decide, (mm 1151 (by decide +kernel) rfl), (mm 55 (by decide +kernel) rfl)⟩
theorem pa_fm_sees : (parseMethodDescriptor me_fm_sees.1.desc).map (fun d => d.parameters.length) = some 0 := by decide +kernel
theorem ii_fm_sees : Cond.instanceMethod me_fm_sees.1 ∈ mTb ∧ Cond.selects me_fm_sees.1.cls me_fm_sees.1 me_fm_sees.1 ∈ mTb := ⟨(mm 1150 (by decide +kernel) rfl), (mm 28 (by decide +kernel) rfl)⟩
theorem ca_fm_asItIs : mCal me_fm_asItIs := ⟨by decide +kernel, ⟨by decide, by decide⟩, by decide, (mm 1155 (by decide +kernel) rfl), (mm 55 (by decide +kernel) rfl)⟩
theorem pa_fm_asItIs : (parseMethodDescriptor me_fm_asItIs.1.desc).map (fun d => d.parameters.length) = some 0 := by decide +kernel
theorem ii_fm_asItIs : Cond.instanceMethod me_fm_asItIs.1 ∈ mTb ∧ Cond.selects me_fm_asItIs.1.cls me_fm_asItIs.1 me_fm_asItIs.1 ∈ mTb := ⟨(mm 1154 (by decide +kernel) rfl), (mm 29 (by decide +kernel) rfl)⟩
theorem ca_fm_runs : mCal me_fm_runs := ⟨by decide +kernel, ⟨by decide, by decide⟩, by decide, (mm 1159 (by decide +kernel) rfl), (mm 55 (by decide +kernel) rfl)⟩
theorem pa_fm_runs : (parseMethodDescriptor me_fm_runs.1.desc).map (fun d => d.parameters.length) = some 0 := by decide +kernel
theorem ii_fm_runs : Cond.instanceMethod me_fm_runs.1 ∈ mTb ∧ Cond.selects me_fm_runs.1.cls me_fm_runs.1 me_fm_runs.1 ∈ mTb := ⟨(mm 1158 (by decide +kernel) rfl), (mm 30 (by decide +kernel) rfl)⟩
theorem ca_fm_head : mCal me_fm_head := ⟨by decide +kernel, ⟨by decide, by decide⟩, by decide, (mm 1164 (by decide +kernel) rfl), (mm 55 (by decide +kernel) rfl)⟩
theorem pa_fm_head : (parseMethodDescriptor me_fm_head.1.desc).map (fun d => d.parameters.length) = some 1 := by decide +kernel
theorem ii_fm_head : Cond.instanceMethod me_fm_head.1 ∈ mTb ∧ Cond.selects me_fm_head.1.cls me_fm_head.1 me_fm_head.1 ∈ mTb := ⟨(mm 1162 (by decide +kernel) rfl), (mm 1163 (by decide +kernel) rfl)⟩
theorem ca_fm_refuseFar : mCal me_fm_refuseFar := ⟨by decide +kernel, ⟨by decide, by decide⟩, by decide, (mm 1168 (by decide +kernel) rfl), (mm 55 (by decide +kernel) rfl)⟩
theorem pa_fm_refuseFar : (parseMethodDescriptor me_fm_refuseFar.1.desc).map (fun d => d.parameters.length) = some 1 := by decide +kernel
theorem ii_fm_refuseFar : Cond.instanceMethod me_fm_refuseFar.1 ∈ mTb ∧ Cond.selects me_fm_refuseFar.1.cls me_fm_refuseFar.1 me_fm_refuseFar.1 ∈ mTb := ⟨(mm 1167 (by decide +kernel) rfl), (mm 31 (by decide +kernel) rfl)⟩
theorem ca_fm_rise : mCal me_fm_rise := ⟨by decide +kernel, ⟨by decide, by decide⟩, by decide, (mm 1173 (by decide +kernel) rfl), (mm 55 (by decide +kernel) rfl)⟩
theorem pa_fm_rise : (parseMethodDescriptor me_fm_rise.1.desc).map (fun d => d.parameters.length) = some 1 := by decide +kernel
theorem ii_fm_rise : Cond.instanceMethod me_fm_rise.1 ∈ mTb ∧ Cond.selects me_fm_rise.1.cls me_fm_rise.1 me_fm_rise.1 ∈ mTb := ⟨(mm 1171 (by decide +kernel) rfl), (mm 1172 (by decide +kernel) rfl)⟩
theorem ca_fm_riseOf : mCal me_fm_riseOf := ⟨by decide +kernel, ⟨by decide, by decide⟩, by decide, (mm 1177 (by decide +kernel) rfl), (mm 55 (by decide +kernel) rfl)⟩
theorem pa_fm_riseOf : (parseMethodDescriptor me_fm_riseOf.1.desc).map (fun d => d.parameters.length) = some 1 := by decide +kernel
theorem ii_fm_riseOf : Cond.instanceMethod me_fm_riseOf.1 ∈ mTb ∧ Cond.selects me_fm_riseOf.1.cls me_fm_riseOf.1 me_fm_riseOf.1 ∈ mTb := ⟨(mm 1176 (by decide +kernel) rfl), (mm 32 (by decide +kernel) rfl)⟩
theorem ca_fm_share : mCal me_fm_share := ⟨by decide +kernel, ⟨by decide, by decide⟩, by decide, (mm 1181 (by decide +kernel) rfl), (mm 55 (by decide +kernel) rfl)⟩
theorem pa_fm_share : (parseMethodDescriptor me_fm_share.1.desc).map (fun d => d.parameters.length) = some 2 := by decide +kernel
theorem ii_fm_share : Cond.instanceMethod me_fm_share.1 ∈ mTb ∧ Cond.selects me_fm_share.1.cls me_fm_share.1 me_fm_share.1 ∈ mTb := ⟨(mm 1179 (by decide +kernel) rfl), (mm 1180 (by decide +kernel) rfl)⟩
theorem ca_fm_minutes : mCal me_fm_minutes := ⟨by decide +kernel, ⟨by decide, by decide⟩, by decide, (mm 1185 (by decide +kernel) rfl), (mm 55 (by decide +kernel) rfl)⟩
theorem pa_fm_minutes : (parseMethodDescriptor me_fm_minutes.1.desc).map (fun d => d.parameters.length) = some 1 := by decide +kernel
theorem ii_fm_minutes : Cond.instanceMethod me_fm_minutes.1 ∈ mTb ∧ Cond.selects me_fm_minutes.1.cls me_fm_minutes.1 me_fm_minutes.1 ∈ mTb := ⟨(mm 1183 (by decide +kernel) rfl), (mm 1184 (by decide +kernel) rfl)⟩
theorem ca_fm_passes : mCal me_fm_passes := ⟨by decide +kernel, ⟨by decide, by decide⟩, by decide, (mm 1189 (by decide +kernel) rfl), (mm 55 (by decide +kernel) rfl)⟩
theorem pa_fm_passes : (parseMethodDescriptor me_fm_passes.1.desc).map (fun d => d.parameters.length) = some 1 := by decide +kernel
theorem ii_fm_passes : Cond.instanceMethod me_fm_passes.1 ∈ mTb ∧ Cond.selects me_fm_passes.1.cls me_fm_passes.1 me_fm_passes.1 ∈ mTb := ⟨(mm 1188 (by decide +kernel) rfl), (mm 33 (by decide +kernel) rfl)⟩
theorem ca_fm_lasts : mCal me_fm_lasts := ⟨by decide +kernel, ⟨by decide, by decide⟩, by decide, (mm 1195 (by decide +kernel) rfl), (mm 55 (by decide +kernel) rfl)⟩
theorem pa_fm_lasts : (parseMethodDescriptor me_fm_lasts.1.desc).map (fun d => d.parameters.length) = some 1 := by decide +kernel
theorem ii_fm_lasts : Cond.instanceMethod me_fm_lasts.1 ∈ mTb ∧ Cond.selects me_fm_lasts.1.cls me_fm_lasts.1 me_fm_lasts.1 ∈ mTb := ⟨(mm 1193 (by decide +kernel) rfl), (mm 1194 (by decide +kernel) rfl)⟩
theorem ca_fm_view : mCal me_fm_view := ⟨by decide +kernel, ⟨by decide, by decide⟩, by decide, (mm 1199 (by decide +kernel) rfl), (mm 55 (by decide +kernel) rfl)⟩
theorem pa_fm_view : (parseMethodDescriptor me_fm_view.1.desc).map (fun d => d.parameters.length) = some 4 := by decide +kernel
theorem ii_fm_view : Cond.instanceMethod me_fm_view.1 ∈ mTb ∧ Cond.selects me_fm_view.1.cls me_fm_view.1 me_fm_view.1 ∈ mTb := ⟨(mm 1197 (by decide +kernel) rfl), (mm 1198 (by decide +kernel) rfl)⟩
theorem ca_fm_unview : mCal me_fm_unview := ⟨by decide +kernel, ⟨by decide, by decide⟩, by decide, (mm 1203 (by decide +kernel) rfl), (mm 55 (by decide +kernel) rfl)⟩
theorem pa_fm_unview : (parseMethodDescriptor me_fm_unview.1.desc).map (fun d => d.parameters.length) = some 0 := by decide +kernel
theorem ii_fm_unview : Cond.instanceMethod me_fm_unview.1 ∈ mTb ∧ Cond.selects me_fm_unview.1.cls me_fm_unview.1 me_fm_unview.1 ∈ mTb := ⟨(mm 1201 (by decide +kernel) rfl), (mm 1202 (by decide +kernel) rfl)⟩
theorem ca_fm_walk : mCal me_fm_walk := ⟨by decide +kernel, ⟨by decide, by decide⟩, by decide, (mm 1207 (by decide +kernel) rfl), (mm 55 (by decide +kernel) rfl)⟩
theorem pa_fm_walk : (parseMethodDescriptor me_fm_walk.1.desc).map (fun d => d.parameters.length) = some 1 := by decide +kernel
theorem ii_fm_walk : Cond.instanceMethod me_fm_walk.1 ∈ mTb ∧ Cond.selects me_fm_walk.1.cls me_fm_walk.1 me_fm_walk.1 ∈ mTb := ⟨(mm 1205 (by decide +kernel) rfl), (mm 1206 (by decide +kernel) rfl)⟩
theorem ca_fm_hasWalk : mCal me_fm_hasWalk := ⟨by decide +kernel, ⟨by decide, by decide⟩, by decide, (mm 1211 (by decide +kernel) rfl), (mm 55 (by decide +kernel) rfl)⟩
theorem pa_fm_hasWalk : (parseMethodDescriptor me_fm_hasWalk.1.desc).map (fun d => d.parameters.length) = some 0 := by decide +kernel
theorem ii_fm_hasWalk : Cond.instanceMethod me_fm_hasWalk.1 ∈ mTb ∧ Cond.selects me_fm_hasWalk.1.cls me_fm_hasWalk.1 me_fm_hasWalk.1 ∈ mTb := ⟨(mm 1210 (by decide +kernel) rfl), (mm 34 (by decide +kernel) rfl)⟩
theorem ca_fm_walks : mCal me_fm_walks := ⟨by decide +kernel, ⟨by decide, by decide⟩, by decide, (mm 1215 (by decide +kernel) rfl), (mm 55 (by decide +kernel) rfl)⟩
theorem pa_fm_walks : (parseMethodDescriptor me_fm_walks.1.desc).map (fun d => d.parameters.length) = some 1 := by decide +kernel
theorem ii_fm_walks : Cond.instanceMethod me_fm_walks.1 ∈ mTb ∧ Cond.selects me_fm_walks.1.cls me_fm_walks.1 me_fm_walks.1 ∈ mTb := ⟨(mm 1214 (by decide +kernel) rfl), (mm 35 (by decide +kernel) rfl)⟩
theorem ca_fm_looksAt : mCal me_fm_looksAt := ⟨by decide +kernel, ⟨by decide, by decide⟩, by decide, (mm 1219 (by decide +kernel) rfl), (mm 55 (by decide +kernel) rfl)⟩
theorem pa_fm_looksAt : (parseMethodDescriptor me_fm_looksAt.1.desc).map (fun d => d.parameters.length) = some 0 := by decide +kernel
theorem ii_fm_looksAt : Cond.instanceMethod me_fm_looksAt.1 ∈ mTb ∧ Cond.selects me_fm_looksAt.1.cls me_fm_looksAt.1 me_fm_looksAt.1 ∈ mTb := ⟨(mm 1218 (by decide +kernel) rfl), (mm 36 (by decide +kernel) rfl)⟩
theorem ca_fm_viewAt : mCal me_fm_viewAt := ⟨by decide +kernel, ⟨by decide, by decide⟩, by decide, (mm 1223 (by decide +kernel) rfl), (mm 55 (by decide +kernel) rfl)⟩
theorem pa_fm_viewAt : (parseMethodDescriptor me_fm_viewAt.1.desc).map (fun d => d.parameters.length) = some 1 := by decide +kernel
theorem ii_fm_viewAt : Cond.instanceMethod me_fm_viewAt.1 ∈ mTb ∧ Cond.selects me_fm_viewAt.1.cls me_fm_viewAt.1 me_fm_viewAt.1 ∈ mTb := ⟨(mm 1222 (by decide +kernel) rfl), (mm 37 (by decide +kernel) rfl)⟩
theorem ca_fm_most : mCal me_fm_most := ⟨by decide +kernel, ⟨by decide, by decide⟩, by decide, (mm 1227 (by decide +kernel) rfl), (mm 55 (by decide +kernel) rfl)⟩
theorem pa_fm_most : (parseMethodDescriptor me_fm_most.1.desc).map (fun d => d.parameters.length) = some 0 := by decide +kernel
theorem ii_fm_most : Cond.instanceMethod me_fm_most.1 ∈ mTb ∧ Cond.selects me_fm_most.1.cls me_fm_most.1 me_fm_most.1 ∈ mTb := ⟨(mm 1225 (by decide +kernel) rfl), (mm 1226 (by decide +kernel) rfl)⟩
theorem ca_fm_pace : mCal me_fm_pace := ⟨by decide +kernel, ⟨by decide, by decide⟩, by decide, (mm 1231 (by decide +kernel) rfl), (mm 55 (by decide +kernel) rfl)⟩
theorem pa_fm_pace : (parseMethodDescriptor me_fm_pace.1.desc).map (fun d => d.parameters.length) = some 1 := by decide +kernel
theorem ii_fm_pace : Cond.instanceMethod me_fm_pace.1 ∈ mTb ∧ Cond.selects me_fm_pace.1.cls me_fm_pace.1 me_fm_pace.1 ∈ mTb := ⟨(mm 1229 (by decide +kernel) rfl), (mm 1230 (by decide +kernel) rfl)⟩
theorem ca_fm_tasks : mCal me_fm_tasks := ⟨by decide +kernel, ⟨by decide, by decide⟩, by decide, (mm 1235 (by decide +kernel) rfl), (mm 55 (by decide +kernel) rfl)⟩
theorem pa_fm_tasks : (parseMethodDescriptor me_fm_tasks.1.desc).map (fun d => d.parameters.length) = some 0 := by decide +kernel
theorem ii_fm_tasks : Cond.instanceMethod me_fm_tasks.1 ∈ mTb ∧ Cond.selects me_fm_tasks.1.cls me_fm_tasks.1 me_fm_tasks.1 ∈ mTb := ⟨(mm 1233 (by decide +kernel) rfl), (mm 1234 (by decide +kernel) rfl)⟩
theorem ca_fm_findTasks : mCal me_fm_findTasks := ⟨by decide +kernel, ⟨by decide, by decide⟩, by decide, (mm 1239 (by decide +kernel) rfl), (mm 55 (by decide +kernel) rfl)⟩
theorem pa_fm_findTasks : (parseMethodDescriptor me_fm_findTasks.1.desc).map (fun d => d.parameters.length) = some 0 := by decide +kernel
theorem ii_fm_findTasks : Cond.instanceMethod me_fm_findTasks.1 ∈ mTb ∧ Cond.selects me_fm_findTasks.1.cls me_fm_findTasks.1 me_fm_findTasks.1 ∈ mTb := ⟨(mm 1238 (by decide +kernel) rfl), (mm 38 (by decide +kernel) rfl)⟩
theorem ca_fm_adds : mCal me_fm_adds := ⟨by decide +kernel, ⟨by decide, by decide⟩, by decide, (mm 1243 (by decide +kernel) rfl), (mm 55 (by decide +kernel) rfl)⟩
theorem pa_fm_adds : (parseMethodDescriptor me_fm_adds.1.desc).map (fun d => d.parameters.length) = some 3 := by decide +kernel
theorem ii_fm_adds : Cond.instanceMethod me_fm_adds.1 ∈ mTb ∧ Cond.selects me_fm_adds.1.cls me_fm_adds.1 me_fm_adds.1 ∈ mTb := ⟨(mm 1242 (by decide +kernel) rfl), (mm 39 (by decide +kernel) rfl)⟩
theorem ca_fm_task : mCal me_fm_task := ⟨by decide +kernel, ⟨by decide, by decide⟩, by decide, (mm 1247 (by decide +kernel) rfl), (mm 55 (by decide +kernel) rfl)⟩
theorem pa_fm_task : (parseMethodDescriptor me_fm_task.1.desc).map (fun d => d.parameters.length) = some 2 := by decide +kernel
theorem ii_fm_task : Cond.instanceMethod me_fm_task.1 ∈ mTb ∧ Cond.selects me_fm_task.1.cls me_fm_task.1 me_fm_task.1 ∈ mTb := ⟨(mm 1245 (by decide +kernel) rfl), (mm 1246 (by decide +kernel) rfl)⟩
theorem ca_fm_boys : mCal me_fm_boys := ⟨by decide +kernel, ⟨by decide, by decide⟩, by decide, (mm 1251 (by decide +kernel) rfl), (mm 55 (by decide +kernel) rfl)⟩
theorem pa_fm_boys : (parseMethodDescriptor me_fm_boys.1.desc).map (fun d => d.parameters.length) = some 0 := by decide +kernel
theorem ii_fm_boys : Cond.instanceMethod me_fm_boys.1 ∈ mTb ∧ Cond.selects me_fm_boys.1.cls me_fm_boys.1 me_fm_boys.1 ∈ mTb := ⟨(mm 1249 (by decide +kernel) rfl), (mm 1250 (by decide +kernel) rfl)⟩
theorem ca_fm_leads : mCal me_fm_leads := ⟨by decide +kernel, ⟨by decide, by decide⟩, by decide, (mm 1255 (by decide +kernel) rfl), (mm 55 (by decide +kernel) rfl)⟩
theorem pa_fm_leads : (parseMethodDescriptor me_fm_leads.1.desc).map (fun d => d.parameters.length) = some 1 := by decide +kernel
theorem ii_fm_leads : Cond.instanceMethod me_fm_leads.1 ∈ mTb ∧ Cond.selects me_fm_leads.1.cls me_fm_leads.1 me_fm_leads.1 ∈ mTb := ⟨(mm 1254 (by decide +kernel) rfl), (mm 40 (by decide +kernel) rfl)⟩
theorem ca_fm_canFollow : mCal me_fm_canFollow := ⟨by decide +kernel, ⟨by decide, by decide⟩, by decide, (mm 1259 (by decide +kernel) rfl), (mm 55 (by decide +kernel) rfl)⟩
theorem pa_fm_canFollow : (parseMethodDescriptor me_fm_canFollow.1.desc).map (fun d => d.parameters.length) = some 2 := by decide +kernel
theorem ii_fm_canFollow : Cond.instanceMethod me_fm_canFollow.1 ∈ mTb ∧ Cond.selects me_fm_canFollow.1.cls me_fm_canFollow.1 me_fm_canFollow.1 ∈ mTb := ⟨(mm 1258 (by decide +kernel) rfl), (mm 41 (by decide +kernel) rfl)⟩
theorem ca_fm_gauge : mCal me_fm_gauge := ⟨by decide +kernel, ⟨by decide, by decide⟩, by decide, (mm 1264 (by decide +kernel) rfl), (mm 55 (by decide +kernel) rfl)⟩
theorem pa_fm_gauge : (parseMethodDescriptor me_fm_gauge.1.desc).map (fun d => d.parameters.length) = some 2 := by decide +kernel
theorem ii_fm_gauge : Cond.instanceMethod me_fm_gauge.1 ∈ mTb ∧ Cond.selects me_fm_gauge.1.cls me_fm_gauge.1 me_fm_gauge.1 ∈ mTb := ⟨(mm 1262 (by decide +kernel) rfl), (mm 1263 (by decide +kernel) rfl)⟩
theorem ca_fm_tol : mCal me_fm_tol := ⟨by decide +kernel, ⟨by decide, by decide⟩, by decide, (mm 1268 (by decide +kernel) rfl), (mm 55 (by decide +kernel) rfl)⟩
theorem pa_fm_tol : (parseMethodDescriptor me_fm_tol.1.desc).map (fun d => d.parameters.length) = some 1 := by decide +kernel
theorem ii_fm_tol : Cond.instanceMethod me_fm_tol.1 ∈ mTb ∧ Cond.selects me_fm_tol.1.cls me_fm_tol.1 me_fm_tol.1 ∈ mTb := ⟨(mm 1266 (by decide +kernel) rfl), (mm 1267 (by decide +kernel) rfl)⟩
theorem ca_fm_explain : mCal me_fm_explain := ⟨by decide +kernel, ⟨by decide, by decide⟩, by decide, (mm 1272 (by decide +kernel) rfl), (mm 55 (by decide +kernel) rfl)⟩
theorem pa_fm_explain : (parseMethodDescriptor me_fm_explain.1.desc).map (fun d => d.parameters.length) = some 0 := by decide +kernel
theorem ii_fm_explain : Cond.instanceMethod me_fm_explain.1 ∈ mTb ∧ Cond.selects me_fm_explain.1.cls me_fm_explain.1 me_fm_explain.1 ∈ mTb := ⟨(mm 1270 (by decide +kernel) rfl), (mm 1271 (by decide +kernel) rfl)⟩
theorem ca_fm_look : mCal me_fm_look := ⟨by decide +kernel, ⟨by decide, by decide⟩, by decide, (mm 1276 (by decide +kernel) rfl), (mm 55 (by decide +kernel) rfl)⟩
theorem pa_fm_look : (parseMethodDescriptor me_fm_look.1.desc).map (fun d => d.parameters.length) = some 0 := by decide +kernel
theorem ii_fm_look : Cond.instanceMethod me_fm_look.1 ∈ mTb ∧ Cond.selects me_fm_look.1.cls me_fm_look.1 me_fm_look.1 ∈ mTb := ⟨(mm 1275 (by decide +kernel) rfl), (mm 42 (by decide +kernel) rfl)⟩
theorem ca_fm_explains : mCal me_fm_explains := ⟨by decide +kernel, ⟨by decide, by decide⟩, by decide, (mm 1280 (by decide +kernel) rfl), (mm 55 (by decide +kernel) rfl)⟩
theorem pa_fm_explains : (parseMethodDescriptor me_fm_explains.1.desc).map (fun d => d.parameters.length) = some 0 := by decide +kernel
theorem ii_fm_explains : Cond.instanceMethod me_fm_explains.1 ∈ mTb ∧ Cond.selects me_fm_explains.1.cls me_fm_explains.1 me_fm_explains.1 ∈ mTb := ⟨(mm 1279 (by decide +kernel) rfl), (mm 43 (by decide +kernel) rfl)⟩
theorem ca_fm_two : mCal me_fm_two := ⟨by decide +kernel, ⟨by decide, by decide⟩, by decide, (mm 1284 (by decide +kernel) rfl), (mm 55 (by decide +kernel) rfl)⟩
theorem pa_fm_two : (parseMethodDescriptor me_fm_two.1.desc).map (fun d => d.parameters.length) = some 2 := by decide +kernel
theorem ii_fm_two : Cond.instanceMethod me_fm_two.1 ∈ mTb ∧ Cond.selects me_fm_two.1.cls me_fm_two.1 me_fm_two.1 ∈ mTb := ⟨(mm 1283 (by decide +kernel) rfl), (mm 44 (by decide +kernel) rfl)⟩
theorem ca_fm_explained : mCal me_fm_explained := ⟨by decide +kernel, ⟨by decide, by decide⟩, by decide, (mm 1288 (by decide +kernel) rfl), (mm 55 (by decide +kernel) rfl)⟩
theorem pa_fm_explained : (parseMethodDescriptor me_fm_explained.1.desc).map (fun d => d.parameters.length) = some 1 := by decide +kernel
theorem ii_fm_explained : Cond.instanceMethod me_fm_explained.1 ∈ mTb ∧ Cond.selects me_fm_explained.1.cls me_fm_explained.1 me_fm_explained.1 ∈ mTb := ⟨(mm 1286 (by decide +kernel) rfl), (mm 1287 (by decide +kernel) rfl)⟩
theorem ca_fm_rivals : mCal me_fm_rivals := ⟨by decide +kernel, ⟨by decide, by decide⟩, by decide, (mm 1292 (by decide +kernel) rfl), (mm 55 (by decide +kernel) rfl)⟩
theorem pa_fm_rivals : (parseMethodDescriptor me_fm_rivals.1.desc).map (fun d => d.parameters.length) = some 0 := by decide +kernel
theorem ii_fm_rivals : Cond.instanceMethod me_fm_rivals.1 ∈ mTb ∧ Cond.selects me_fm_rivals.1.cls me_fm_rivals.1 me_fm_rivals.1 ∈ mTb := ⟨(mm 1290 (by decide +kernel) rfl), (mm 1291 (by decide +kernel) rfl)⟩
theorem ca_fm_empty : mCal me_fm_empty := ⟨by decide +kernel, ⟨by decide, by decide⟩, by decide, (mm 1296 (by decide +kernel) rfl), (mm 55 (by decide +kernel) rfl)⟩
theorem pa_fm_empty : (parseMethodDescriptor me_fm_empty.1.desc).map (fun d => d.parameters.length) = some 1 := by decide +kernel
theorem ii_fm_empty : Cond.instanceMethod me_fm_empty.1 ∈ mTb ∧ Cond.selects me_fm_empty.1.cls me_fm_empty.1 me_fm_empty.1 ∈ mTb := ⟨(mm 1294 (by decide +kernel) rfl), (mm 1295 (by decide +kernel) rfl)⟩
theorem ca_fm_mayEmpty : mCal me_fm_mayEmpty := ⟨by decide +kernel, ⟨by decide, by decide⟩, by decide, (mm 1300 (by decide +kernel) rfl), (mm 55 (by decide +kernel) rfl)⟩
theorem pa_fm_mayEmpty : (parseMethodDescriptor me_fm_mayEmpty.1.desc).map (fun d => d.parameters.length) = some 2 := by decide +kernel
theorem ii_fm_mayEmpty : Cond.instanceMethod me_fm_mayEmpty.1 ∈ mTb ∧ Cond.selects me_fm_mayEmpty.1.cls me_fm_mayEmpty.1 me_fm_mayEmpty.1 ∈ mTb := ⟨(mm 1299 (by decide +kernel) rfl), (mm 45 (by decide +kernel) rfl)⟩
theorem ca_fm_fill : mCal me_fm_fill := ⟨by decide +kernel, ⟨by decide, by decide⟩, by decide, (mm 1304 (by decide +kernel) rfl), (mm 55 (by decide +kernel) rfl)⟩
theorem pa_fm_fill : (parseMethodDescriptor me_fm_fill.1.desc).map (fun d => d.parameters.length) = some 1 := by decide +kernel
theorem ii_fm_fill : Cond.instanceMethod me_fm_fill.1 ∈ mTb ∧ Cond.selects me_fm_fill.1.cls me_fm_fill.1 me_fm_fill.1 ∈ mTb := ⟨(mm 1302 (by decide +kernel) rfl), (mm 1303 (by decide +kernel) rfl)⟩
theorem ca_fm_order : mCal me_fm_order := ⟨by decide +kernel, ⟨by decide, by decide⟩, by decide, (mm 1308 (by decide +kernel) rfl), (mm 55 (by decide +kernel) rfl)⟩
theorem pa_fm_order : (parseMethodDescriptor me_fm_order.1.desc).map (fun d => d.parameters.length) = some 1 := by decide +kernel
theorem ii_fm_order : Cond.instanceMethod me_fm_order.1 ∈ mTb ∧ Cond.selects me_fm_order.1.cls me_fm_order.1 me_fm_order.1 ∈ mTb := ⟨(mm 1306 (by decide +kernel) rfl), (mm 1307 (by decide +kernel) rfl)⟩
theorem ca_fm_tankOf : mCal me_fm_tankOf := ⟨by decide +kernel, ⟨by decide, by decide⟩, by decide, (mm 1312 (by decide +kernel) rfl), (mm 55 (by decide +kernel) rfl)⟩
theorem pa_fm_tankOf : (parseMethodDescriptor me_fm_tankOf.1.desc).map (fun d => d.parameters.length) = some 2 := by decide +kernel
theorem ii_fm_tankOf : Cond.instanceMethod me_fm_tankOf.1 ∈ mTb ∧ Cond.selects me_fm_tankOf.1.cls me_fm_tankOf.1 me_fm_tankOf.1 ∈ mTb := ⟨(mm 1310 (by decide +kernel) rfl), (mm 1311 (by decide +kernel) rfl)⟩
theorem ca_fm_jointOf : mCal me_fm_jointOf := ⟨by decide +kernel, ⟨by decide, by decide⟩, by decide, (mm 1316 (by decide +kernel) rfl), (mm 55 (by decide +kernel) rfl)⟩
theorem pa_fm_jointOf : (parseMethodDescriptor me_fm_jointOf.1.desc).map (fun d => d.parameters.length) = some 2 := by decide +kernel
theorem ii_fm_jointOf : Cond.instanceMethod me_fm_jointOf.1 ∈ mTb ∧ Cond.selects me_fm_jointOf.1.cls me_fm_jointOf.1 me_fm_jointOf.1 ∈ mTb := ⟨(mm 1314 (by decide +kernel) rfl), (mm 1315 (by decide +kernel) rfl)⟩
theorem ca_fm_count : mCal me_fm_count := ⟨by decide +kernel, ⟨by decide, by decide⟩, by decide, (mm 1320 (by decide +kernel) rfl), (mm 55 (by decide +kernel) rfl)⟩
theorem pa_fm_count : (parseMethodDescriptor me_fm_count.1.desc).map (fun d => d.parameters.length) = some 1 := by decide +kernel
theorem ii_fm_count : Cond.instanceMethod me_fm_count.1 ∈ mTb ∧ Cond.selects me_fm_count.1.cls me_fm_count.1 me_fm_count.1 ∈ mTb := ⟨(mm 1318 (by decide +kernel) rfl), (mm 1319 (by decide +kernel) rfl)⟩
theorem ml_lw_9 : Cond.methodLink "FountainNetLaw" 9 me_fn_init.1 ∈ mTb := (mm 69 (by decide +kernel) rfl)
theorem ml_fn_3 : Cond.methodLink "FountainNet" 3 Lib.objectInit ∈ mTb := (mm 72 (by decide +kernel) rfl)
theorem ml_fn_11 : Cond.methodLink "FountainNet" 11 me_ga_init.1 ∈ mTb := (mm 77 (by decide +kernel) rfl)
theorem ml_ga_3 : Cond.methodLink "FountainNet$Garden" 3 Lib.objectInit ∈ mTb := (mm 80 (by decide +kernel) rfl)
theorem ml_ga_11 : Cond.methodLink "FountainNet$Garden" 11 me_al_init.1 ∈ mTb := (mm 83 (by decide +kernel) rfl)
theorem ml_al_1 : Cond.methodLink "java/util/ArrayList" 1 me_ab_init.1 ∈ mTb := (mm 86 (by decide +kernel) rfl)
theorem ml_ab_1 : Cond.methodLink "java/util/AbstractList" 1 me_ac_init.1 ∈ mTb := (mm 89 (by decide +kernel) rfl)
theorem ml_ac_1 : Cond.methodLink "java/util/AbstractCollection" 1 Lib.objectInit ∈ mTb := (mm 92 (by decide +kernel) rfl)
theorem ml_fn_18 : Cond.methodLink "FountainNet" 18 me_al_init.1 ∈ mTb := (mm 135 (by decide +kernel) rfl)
theorem ml_fn_25 : Cond.methodLink "FountainNet" 25 me_sr_init.1 ∈ mTb := (mm 138 (by decide +kernel) rfl)
theorem ml_sr_3 : Cond.methodLink "FountainNet$Stroll" 3 Lib.objectInit ∈ mTb := (mm 141 (by decide +kernel) rfl)
theorem ml_fn_34 : Cond.methodLink "FountainNet" 34 me_tl_init.1 ∈ mTb := (mm 175 (by decide +kernel) rfl)
theorem ml_tl_3 : Cond.methodLink "FountainNet$TaskList" 3 Lib.objectInit ∈ mTb := (mm 178 (by decide +kernel) rfl)
theorem ml_fn_41 : Cond.methodLink "FountainNet" 41 me_lk_init.1 ∈ mTb := (mm 208 (by decide +kernel) rfl)
theorem ml_lk_3 : Cond.methodLink "FountainNet$LeakSearch" 3 Lib.objectInit ∈ mTb := (mm 211 (by decide +kernel) rfl)
theorem ml_lw_13 : Cond.methodLink "FountainNetLaw" 13 me_fn_tank.1 ∈ mTb := (mm 258 (by decide +kernel) rfl)
theorem ml_fn_56 : Cond.methodLink "FountainNet" 56 me_fn_refuse.1 ∈ mTb := (mm 262 (by decide +kernel) rfl)
theorem ml_fn_63 : Cond.methodLink "FountainNet" 63 me_al_size.1 ∈ mTb := (mm 266 (by decide +kernel) rfl)
theorem ml_fn_69 : Cond.methodLink "FountainNet" 69 me_tk_init.1 ∈ mTb := (mm 272 (by decide +kernel) rfl)
theorem ml_tk_1 : Cond.methodLink "FountainNet$Tank" 1 Lib.objectInit ∈ mTb := (mm 275 (by decide +kernel) rfl)
theorem ml_fn_72 : Cond.methodLink "FountainNet" 72 me_al_add.1 ∈ mTb := (mm 316 (by decide +kernel) rfl)
theorem ml_al_131 : Cond.methodLink "java/util/ArrayList" 131 me_al_add2.1 ∈ mTb := (mm 320 (by decide +kernel) rfl)
theorem ml_al_129 : Cond.methodLink "java/util/ArrayList" 129 me_al_grow.1 ∈ mTb := (mm 324 (by decide +kernel) rfl)
theorem ml_al_69 : Cond.methodLink "java/util/ArrayList" 69 me_al_grow2.1 ∈ mTb := (mm 328 (by decide +kernel) rfl)
theorem ml_al_73 : Cond.methodLink "java/util/ArrayList" 73 me_as_newLength.1 ∈ mTb := (mm 332 (by decide +kernel) rfl)
theorem ml_as_194 : Cond.methodLink "jdk/internal/util/ArraysSupport" 194 Lib.Math.max.name ∈ mTb := (mm 335 (by decide +kernel) rfl)
theorem ml_al_66 : Cond.methodLink "java/util/ArrayList" 66 me_ar_copyOf.1 ∈ mTb := (mm 342 (by decide +kernel) rfl)
theorem ml_ar_86 : Cond.methodLink "java/util/Arrays" 86 ⟨"java/lang/Object", "getClass", "()Ljava/lang/Class;"⟩ ∈ mTb := (mm 345 (by decide +kernel) rfl)
theorem ml_ar_300 : Cond.methodLink "java/util/Arrays" 300 me_ar_copyOf2.1 ∈ mTb := (mm 360 (by decide +kernel) rfl)
theorem ml_ar_304 : Cond.methodLink "java/util/Arrays" 304 Lib.Math.min.name ∈ mTb := (mm 366 (by decide +kernel) rfl)
theorem ml_ar_150 : Cond.methodLink "java/util/Arrays" 150 arraycopyName ∈ mTb := (mm 369 (by decide +kernel) rfl)
theorem ml_al_79 : Cond.methodLink "java/util/ArrayList" 79 Lib.Math.max.name ∈ mTb := (mm 372 (by decide +kernel) rfl)
theorem ml_lw_18 : Cond.methodLink "FountainNetLaw" 18 me_fn_set.1 ∈ mTb := (mm 374 (by decide +kernel) rfl)
theorem ml_fn_76 : Cond.methodLink "FountainNet" 76 me_ga_tankAt.1 ∈ mTb := (mm 378 (by decide +kernel) rfl)
theorem ml_ga_24 : Cond.methodLink "FountainNet$Garden" 24 me_al_size.1 ∈ mTb := (mm 382 (by decide +kernel) rfl)
theorem ml_ga_28 : Cond.methodLink "FountainNet$Garden" 28 me_al_get.1 ∈ mTb := (mm 383 (by decide +kernel) rfl)
theorem ml_al_118 : Cond.methodLink "java/util/ArrayList" 118 me_os_checkIndex.1 ∈ mTb := (mm 387 (by decide +kernel) rfl)
theorem ml_os_105 : Cond.methodLink "java/util/Objects" 105 me_pr_checkIndex.1 ∈ mTb := (mm 390 (by decide +kernel) rfl)
theorem ml_al_123 : Cond.methodLink "java/util/ArrayList" 123 me_al_elementData.1 ∈ mTb := (mm 393 (by decide +kernel) rfl)
theorem ml_fn_80 : Cond.methodLink "FountainNet" 80 me_tk_capacity.1 ∈ mTb := (mm 398 (by decide +kernel) rfl)
theorem ml_fn_83 : Cond.methodLink "FountainNet" 83 me_tk_changeSpring.1 ∈ mTb := (mm 402 (by decide +kernel) rfl)
theorem ml_fn_86 : Cond.methodLink "FountainNet" 86 me_tk_changeWater.1 ∈ mTb := (mm 406 (by decide +kernel) rfl)
theorem ml_lw_23 : Cond.methodLink "FountainNetLaw" 23 me_fn_joint.1 ∈ mTb := (mm 410 (by decide +kernel) rfl)
theorem ml_fn_89 : Cond.methodLink "FountainNet" 89 me_ga_jointAt.1 ∈ mTb := (mm 414 (by decide +kernel) rfl)
theorem ml_fn_93 : Cond.methodLink "FountainNet" 93 me_fn_feederOf.1 ∈ mTb := (mm 419 (by decide +kernel) rfl)
theorem ml_fn_106 : Cond.methodLink "FountainNet" 106 me_jn_init.1 ∈ mTb := (mm 424 (by decide +kernel) rfl)
theorem ml_jn_1 : Cond.methodLink "FountainNet$Joint" 1 Lib.objectInit ∈ mTb := (mm 427 (by decide +kernel) rfl)
theorem ml_lw_28 : Cond.methodLink "FountainNetLaw" 28 me_fn_jet.1 ∈ mTb := (mm 493 (by decide +kernel) rfl)
theorem ml_fn_118 : Cond.methodLink "FountainNet" 118 me_je_init.1 ∈ mTb := (mm 499 (by decide +kernel) rfl)
theorem ml_je_1 : Cond.methodLink "FountainNet$Jet" 1 Lib.objectInit ∈ mTb := (mm 502 (by decide +kernel) rfl)
theorem ml_lw_33 : Cond.methodLink "FountainNetLaw" 33 me_fn_play.1 ∈ mTb := (mm 529 (by decide +kernel) rfl)
theorem ml_fn_121 : Cond.methodLink "FountainNet" 121 me_ga_jetAt.1 ∈ mTb := (mm 533 (by decide +kernel) rfl)
theorem ml_fn_132 : Cond.methodLink "FountainNet" 132 me_je_isIn.1 ∈ mTb := (mm 538 (by decide +kernel) rfl)
theorem ml_lw_38 : Cond.methodLink "FountainNetLaw" 38 me_fn_pipe.1 ∈ mTb := (mm 542 (by decide +kernel) rfl)
theorem ml_lw_42 : Cond.methodLink "FountainNetLaw" 42 me_fn_leak.1 ∈ mTb := (mm 546 (by decide +kernel) rfl)
theorem ml_lw_46 : Cond.methodLink "FountainNetLaw" 46 me_fn_flow.1 ∈ mTb := (mm 550 (by decide +kernel) rfl)
theorem ml_fn_144 : Cond.methodLink "FountainNet" 144 me_ga_reckonAsItIs.1 ∈ mTb := (mm 554 (by decide +kernel) rfl)
theorem ml_ga_42 : Cond.methodLink "FountainNet$Garden" 42 me_ga_reckon.1 ∈ mTb := (mm 558 (by decide +kernel) rfl)
theorem ml_ga_46 : Cond.methodLink "FountainNet$Garden" 46 me_ga_forgetFlows.1 ∈ mTb := (mm 562 (by decide +kernel) rfl)
theorem ml_ga_56 : Cond.methodLink "FountainNet$Garden" 56 me_jn_drawAmong.1 ∈ mTb := (mm 566 (by decide +kernel) rfl)
theorem ml_jn_52 : Cond.methodLink "FountainNet$Joint" 52 me_je_isIn.1 ∈ mTb := (mm 570 (by decide +kernel) rfl)
theorem ml_ga_66 : Cond.methodLink "FountainNet$Garden" 66 me_ga_addFlowAhead.1 ∈ mTb := (mm 571 (by decide +kernel) rfl)
theorem ml_ga_70 : Cond.methodLink "FountainNet$Garden" 70 me_jn_lossNow.1 ∈ mTb := (mm 575 (by decide +kernel) rfl)
theorem ml_lw_51 : Cond.methodLink "FountainNetLaw" 51 me_fn_head.1 ∈ mTb := (mm 580 (by decide +kernel) rfl)
theorem ml_fn_150 : Cond.methodLink "FountainNet" 150 me_fn_refuseAsTold.1 ∈ mTb := (mm 584 (by decide +kernel) rfl)
theorem ml_fn_160 : Cond.methodLink "FountainNet" 160 me_jn_headWith.1 ∈ mTb := (mm 589 (by decide +kernel) rfl)
theorem ml_jn_39 : Cond.methodLink "FountainNet$Joint" 39 me_tk_levelWith.1 ∈ mTb := (mm 593 (by decide +kernel) rfl)
theorem ml_lw_55 : Cond.methodLink "FountainNetLaw" 55 me_fn_rise.1 ∈ mTb := (mm 597 (by decide +kernel) rfl)
theorem ml_fn_163 : Cond.methodLink "FountainNet" 163 me_je_riseAmong.1 ∈ mTb := (mm 601 (by decide +kernel) rfl)
theorem ml_je_26 : Cond.methodLink "FountainNet$Jet" 26 me_je_isIn.1 ∈ mTb := (mm 605 (by decide +kernel) rfl)
theorem ml_je_30 : Cond.methodLink "FountainNet$Jet" 30 me_jn_headWith.1 ∈ mTb := (mm 606 (by decide +kernel) rfl)
theorem ml_je_36 : Cond.methodLink "FountainNet$Jet" 36 Lib.Math.max.name ∈ mTb := (mm 607 (by decide +kernel) rfl)
theorem ml_lw_59 : Cond.methodLink "FountainNetLaw" 59 me_fn_share.1 ∈ mTb := (mm 608 (by decide +kernel) rfl)
theorem ml_fn_167 : Cond.methodLink "FountainNet" 167 me_ga_reckon.1 ∈ mTb := (mm 612 (by decide +kernel) rfl)
theorem ml_lw_63 : Cond.methodLink "FountainNetLaw" 63 me_fn_minutes.1 ∈ mTb := (mm 613 (by decide +kernel) rfl)
theorem ml_fn_174 : Cond.methodLink "FountainNet" 174 me_al_get.1 ∈ mTb := (mm 617 (by decide +kernel) rfl)
theorem ml_fn_178 : Cond.methodLink "FountainNet" 178 me_tk_passMinutes.1 ∈ mTb := (mm 618 (by decide +kernel) rfl)
theorem ml_tk_38 : Cond.methodLink "FountainNet$Tank" 38 me_tk_withSpring.1 ∈ mTb := (mm 622 (by decide +kernel) rfl)
theorem ml_tk_28 : Cond.methodLink "FountainNet$Tank" 28 me_tk_capacity.1 ∈ mTb := (mm 626 (by decide +kernel) rfl)
theorem ml_tk_32 : Cond.methodLink "FountainNet$Tank" 32 Lib.Math.min.name ∈ mTb := (mm 627 (by decide +kernel) rfl)
theorem ml_tk_45 : Cond.methodLink "FountainNet$Tank" 45 Lib.Math.max.name ∈ mTb := (mm 628 (by decide +kernel) rfl)
theorem ml_tk_54 : Cond.methodLink "FountainNet$Tank" 54 me_tk_waterAfterMinute.1 ∈ mTb := (mm 629 (by decide +kernel) rfl)
theorem ml_lw_67 : Cond.methodLink "FountainNetLaw" 67 me_fn_lasts.1 ∈ mTb := (mm 633 (by decide +kernel) rfl)
theorem ml_fn_182 : Cond.methodLink "FountainNet" 182 me_tk_waterAfterMinute.1 ∈ mTb := (mm 637 (by decide +kernel) rfl)
theorem ml_lw_71 : Cond.methodLink "FountainNetLaw" 71 me_fn_view.1 ∈ mTb := (mm 638 (by decide +kernel) rfl)
theorem ml_fn_185 : Cond.methodLink "FountainNet" 185 me_ga_allJets.1 ∈ mTb := (mm 642 (by decide +kernel) rfl)
theorem ml_fn_193 : Cond.methodLink "FountainNet" 193 me_vw_init.1 ∈ mTb := (mm 648 (by decide +kernel) rfl)
theorem ml_vw_1 : Cond.methodLink "FountainNet$View" 1 Lib.objectInit ∈ mTb := (mm 651 (by decide +kernel) rfl)
theorem ml_lw_75 : Cond.methodLink "FountainNetLaw" 75 me_fn_unview.1 ∈ mTb := (mm 673 (by decide +kernel) rfl)
theorem ml_fn_196 : Cond.methodLink "FountainNet" 196 me_al_remove.1 ∈ mTb := (mm 677 (by decide +kernel) rfl)
theorem ml_al_144 : Cond.methodLink "java/util/ArrayList" 144 me_al_fastRemove.1 ∈ mTb := (mm 681 (by decide +kernel) rfl)
theorem ml_al_112 : Cond.methodLink "java/util/ArrayList" 112 arraycopyName ∈ mTb := (mm 685 (by decide +kernel) rfl)
theorem ml_lw_80 : Cond.methodLink "FountainNetLaw" 80 me_fn_walk.1 ∈ mTb := (mm 686 (by decide +kernel) rfl)
theorem ml_fn_199 : Cond.methodLink "FountainNet" 199 me_sr_isAhead.1 ∈ mTb := (mm 690 (by decide +kernel) rfl)
theorem ml_sr_19 : Cond.methodLink "FountainNet$Stroll" 19 me_sr_lastMinute.1 ∈ mTb := (mm 694 (by decide +kernel) rfl)
theorem ml_sr_29 : Cond.methodLink "FountainNet$Stroll" 29 me_al_isEmpty.1 ∈ mTb := (mm 698 (by decide +kernel) rfl)
theorem ml_sr_35 : Cond.methodLink "FountainNet$Stroll" 35 me_al_size.1 ∈ mTb := (mm 702 (by decide +kernel) rfl)
theorem ml_sr_38 : Cond.methodLink "FountainNet$Stroll" 38 me_al_get.1 ∈ mTb := (mm 703 (by decide +kernel) rfl)
theorem ml_fn_203 : Cond.methodLink "FountainNet" 203 me_sr_go.1 ∈ mTb := (mm 705 (by decide +kernel) rfl)
theorem ml_sr_47 : Cond.methodLink "FountainNet$Stroll" 47 me_sr_begin.1 ∈ mTb := (mm 709 (by decide +kernel) rfl)
theorem ml_sr_102 : Cond.methodLink "FountainNet$Stroll" 102 Lib.Math.min.name ∈ mTb := (mm 715 (by decide +kernel) rfl)
theorem ml_sr_56 : Cond.methodLink "FountainNet$Stroll" 56 me_ga_reckon.1 ∈ mTb := (mm 716 (by decide +kernel) rfl)
theorem ml_sr_60 : Cond.methodLink "FountainNet$Stroll" 60 me_sr_lookAtRises.1 ∈ mTb := (mm 717 (by decide +kernel) rfl)
theorem ml_sr_111 : Cond.methodLink "FountainNet$Stroll" 111 me_je_isIn.1 ∈ mTb := (mm 722 (by decide +kernel) rfl)
theorem ml_sr_125 : Cond.methodLink "FountainNet$Stroll" 125 me_je_riseAmong.1 ∈ mTb := (mm 723 (by decide +kernel) rfl)
theorem ml_sr_78 : Cond.methodLink "FountainNet$Stroll" 78 me_sr_passMinute.1 ∈ mTb := (mm 724 (by decide +kernel) rfl)
theorem ml_sr_131 : Cond.methodLink "FountainNet$Stroll" 131 me_tk_withSpring.1 ∈ mTb := (mm 728 (by decide +kernel) rfl)
theorem ml_sr_135 : Cond.methodLink "FountainNet$Stroll" 135 me_tk_waterAfterMinute.1 ∈ mTb := (mm 729 (by decide +kernel) rfl)
theorem ml_lw_84 : Cond.methodLink "FountainNetLaw" 84 me_fn_most.1 ∈ mTb := (mm 730 (by decide +kernel) rfl)
theorem ml_lw_88 : Cond.methodLink "FountainNetLaw" 88 me_fn_pace.1 ∈ mTb := (mm 734 (by decide +kernel) rfl)
theorem ml_lw_92 : Cond.methodLink "FountainNetLaw" 92 me_fn_tasks.1 ∈ mTb := (mm 738 (by decide +kernel) rfl)
theorem ml_fn_225 : Cond.methodLink "FountainNet" 225 me_tl_build.1 ∈ mTb := (mm 742 (by decide +kernel) rfl)
theorem ml_tl_39 : Cond.methodLink "FountainNet$TaskList" 39 me_al_size.1 ∈ mTb := (mm 746 (by decide +kernel) rfl)
theorem ml_tl_44 : Cond.methodLink "FountainNet$TaskList" 44 me_al_get.1 ∈ mTb := (mm 747 (by decide +kernel) rfl)
theorem ml_tl_53 : Cond.methodLink "FountainNet$TaskList" 53 me_tl_addChange.1 ∈ mTb := (mm 749 (by decide +kernel) rfl)
theorem ml_tl_70 : Cond.methodLink "FountainNet$TaskList" 70 me_je_isIn.1 ∈ mTb := (mm 754 (by decide +kernel) rfl)
theorem ml_lw_96 : Cond.methodLink "FountainNetLaw" 96 me_fn_task.1 ∈ mTb := (mm 755 (by decide +kernel) rfl)
theorem ml_fn_229 : Cond.methodLink "FountainNet" 229 me_tl_tell.1 ∈ mTb := (mm 759 (by decide +kernel) rfl)
theorem ml_lw_100 : Cond.methodLink "FountainNetLaw" 100 me_fn_boys.1 ∈ mTb := (mm 763 (by decide +kernel) rfl)
theorem ml_fn_232 : Cond.methodLink "FountainNet" 232 me_tl_fewestBoys.1 ∈ mTb := (mm 767 (by decide +kernel) rfl)
theorem ml_tl_83 : Cond.methodLink "FountainNet$TaskList" 83 me_tl_mostApartAhead.1 ∈ mTb := (mm 771 (by decide +kernel) rfl)
theorem ml_tl_92 : Cond.methodLink "FountainNet$TaskList" 92 Lib.Math.abs.name ∈ mTb := (mm 775 (by decide +kernel) rfl)
theorem ml_tl_87 : Cond.methodLink "FountainNet$TaskList" 87 Lib.Math.max.name ∈ mTb := (mm 778 (by decide +kernel) rfl)
theorem ml_lw_104 : Cond.methodLink "FountainNetLaw" 104 me_fn_gauge.1 ∈ mTb := (mm 779 (by decide +kernel) rfl)
theorem ml_lw_108 : Cond.methodLink "FountainNetLaw" 108 me_fn_tol.1 ∈ mTb := (mm 783 (by decide +kernel) rfl)
theorem ml_lw_112 : Cond.methodLink "FountainNetLaw" 112 me_fn_explain.1 ∈ mTb := (mm 787 (by decide +kernel) rfl)
theorem ml_fn_241 : Cond.methodLink "FountainNet" 241 me_lk_seek.1 ∈ mTb := (mm 791 (by decide +kernel) rfl)
theorem ml_lk_15 : Cond.methodLink "FountainNet$LeakSearch" 15 me_lk_forgetFound.1 ∈ mTb := (mm 795 (by decide +kernel) rfl)
theorem ml_lk_18 : Cond.methodLink "FountainNet$LeakSearch" 18 me_lk_isAnyRead.1 ∈ mTb := (mm 799 (by decide +kernel) rfl)
theorem ml_lk_32 : Cond.methodLink "FountainNet$LeakSearch" 32 me_al_size.1 ∈ mTb := (mm 803 (by decide +kernel) rfl)
theorem ml_lk_37 : Cond.methodLink "FountainNet$LeakSearch" 37 me_al_get.1 ∈ mTb := (mm 804 (by decide +kernel) rfl)
theorem ml_lk_22 : Cond.methodLink "FountainNet$LeakSearch" 22 me_lk_misses.1 ∈ mTb := (mm 806 (by decide +kernel) rfl)
theorem ml_lk_85 : Cond.methodLink "FountainNet$LeakSearch" 85 me_ga_reckon.1 ∈ mTb := (mm 810 (by decide +kernel) rfl)
theorem ml_lk_102 : Cond.methodLink "FountainNet$LeakSearch" 102 me_je_riseAmong.1 ∈ mTb := (mm 811 (by decide +kernel) rfl)
theorem ml_lk_43 : Cond.methodLink "FountainNet$LeakSearch" 43 me_lk_explainsAlone.1 ∈ mTb := (mm 813 (by decide +kernel) rfl)
theorem ml_lk_47 : Cond.methodLink "FountainNet$LeakSearch" 47 me_lk_explainTogether.1 ∈ mTb := (mm 817 (by decide +kernel) rfl)
theorem ml_lk_78 : Cond.methodLink "FountainNet$LeakSearch" 78 me_lk_keepTwo.1 ∈ mTb := (mm 821 (by decide +kernel) rfl)
theorem ml_lw_116 : Cond.methodLink "FountainNetLaw" 116 me_fn_explained.1 ∈ mTb := (mm 825 (by decide +kernel) rfl)
theorem ml_lw_120 : Cond.methodLink "FountainNetLaw" 120 me_fn_rivals.1 ∈ mTb := (mm 829 (by decide +kernel) rfl)
theorem ml_fn_256 : Cond.methodLink "FountainNet" 256 me_lk_howManyAlone.1 ∈ mTb := (mm 833 (by decide +kernel) rfl)
theorem ml_lw_124 : Cond.methodLink "FountainNetLaw" 124 me_fn_empty.1 ∈ mTb := (mm 837 (by decide +kernel) rfl)
theorem ml_fn_259 : Cond.methodLink "FountainNet" 259 me_ga_mayBeEmptied.1 ∈ mTb := (mm 841 (by decide +kernel) rfl)
theorem ml_lw_128 : Cond.methodLink "FountainNetLaw" 128 me_fn_fill.1 ∈ mTb := (mm 845 (by decide +kernel) rfl)
theorem ml_lw_132 : Cond.methodLink "FountainNetLaw" 132 me_fn_order.1 ∈ mTb := (mm 849 (by decide +kernel) rfl)
theorem ml_fn_266 : Cond.methodLink "FountainNet" 266 me_ga_jointInOrder.1 ∈ mTb := (mm 853 (by decide +kernel) rfl)
theorem ml_ga_85 : Cond.methodLink "FountainNet$Garden" 85 me_ga_beginOrder.1 ∈ mTb := (mm 857 (by decide +kernel) rfl)
theorem ml_ga_88 : Cond.methodLink "FountainNet$Garden" 88 me_ga_nextInOrder.1 ∈ mTb := (mm 861 (by decide +kernel) rfl)
theorem ml_lw_136 : Cond.methodLink "FountainNetLaw" 136 me_fn_tankOf.1 ∈ mTb := (mm 865 (by decide +kernel) rfl)
theorem ml_fn_269 : Cond.methodLink "FountainNet" 269 me_tk_levelWith.1 ∈ mTb := (mm 869 (by decide +kernel) rfl)
theorem ml_lw_140 : Cond.methodLink "FountainNetLaw" 140 me_fn_jointOf.1 ∈ mTb := (mm 870 (by decide +kernel) rfl)
theorem ml_fn_293 : Cond.methodLink "FountainNet" 293 me_jn_lossNow.1 ∈ mTb := (mm 874 (by decide +kernel) rfl)
theorem ml_lw_144 : Cond.methodLink "FountainNetLaw" 144 me_fn_count.1 ∈ mTb := (mm 875 (by decide +kernel) rfl)
theorem ml_fn_296 : Cond.methodLink "FountainNet" 296 me_it_bitCount.1 ∈ mTb := (mm 879 (by decide +kernel) rfl)
theorem ml_fn_301 : Cond.methodLink "FountainNet" 301 me_ga_emptyPipes.1 ∈ mTb := (mm 885 (by decide +kernel) rfl)
theorem ml_fn_304 : Cond.methodLink "FountainNet" 304 me_fn_refusalsOf.1 ∈ mTb := (mm 889 (by decide +kernel) rfl)
theorem ml_lw_12 : Cond.methodLink "FountainNetLaw" 12 me_fm_init.1 ∈ mTb := (mm 895 (by decide +kernel) rfl)
theorem ml_fm_3 : Cond.methodLink "FountainNetModel" 3 Lib.objectInit ∈ mTb := (mm 898 (by decide +kernel) rfl)
theorem ml_lw_17 : Cond.methodLink "FountainNetLaw" 17 me_fm_tank.1 ∈ mTb := (mm 1090 (by decide +kernel) rfl)
theorem ml_fm_133 : Cond.methodLink "FountainNetModel" 133 me_fm_refuse.1 ∈ mTb := (mm 1094 (by decide +kernel) rfl)
theorem ml_lw_22 : Cond.methodLink "FountainNetLaw" 22 me_fm_set.1 ∈ mTb := (mm 1098 (by decide +kernel) rfl)
theorem ml_fm_144 : Cond.methodLink "FountainNetModel" 144 me_fm_isIn.1 ∈ mTb := (mm 1102 (by decide +kernel) rfl)
theorem ml_fm_148 : Cond.methodLink "FountainNetModel" 148 me_fm_wrong.1 ∈ mTb := (mm 1105 (by decide +kernel) rfl)
theorem ml_fm_152 : Cond.methodLink "FountainNetModel" 152 me_fm_changes.1 ∈ mTb := (mm 1108 (by decide +kernel) rfl)
theorem ml_lw_27 : Cond.methodLink "FountainNetLaw" 27 me_fm_joint.1 ∈ mTb := (mm 1112 (by decide +kernel) rfl)
theorem ml_lw_32 : Cond.methodLink "FountainNetLaw" 32 me_fm_jet.1 ∈ mTb := (mm 1116 (by decide +kernel) rfl)
theorem ml_fm_161 : Cond.methodLink "FountainNetModel" 161 me_fm_isJoint.1 ∈ mTb := (mm 1120 (by decide +kernel) rfl)
theorem ml_lw_37 : Cond.methodLink "FountainNetLaw" 37 me_fm_play.1 ∈ mTb := (mm 1124 (by decide +kernel) rfl)
theorem ml_fm_165 : Cond.methodLink "FountainNetModel" 165 me_fm_isJet.1 ∈ mTb := (mm 1128 (by decide +kernel) rfl)
theorem ml_fm_168 : Cond.methodLink "FountainNetModel" 168 me_fm_isCut.1 ∈ mTb := (mm 1132 (by decide +kernel) rfl)
theorem ml_lw_41 : Cond.methodLink "FountainNetLaw" 41 me_fm_pipe.1 ∈ mTb := (mm 1136 (by decide +kernel) rfl)
theorem ml_lw_45 : Cond.methodLink "FountainNetLaw" 45 me_fm_leak.1 ∈ mTb := (mm 1140 (by decide +kernel) rfl)
theorem ml_lw_50 : Cond.methodLink "FountainNetLaw" 50 me_fm_flow.1 ∈ mTb := (mm 1144 (by decide +kernel) rfl)
theorem ml_fm_179 : Cond.methodLink "FountainNetModel" 179 me_fm_sees.1 ∈ mTb := (mm 1148 (by decide +kernel) rfl)
theorem ml_fm_173 : Cond.methodLink "FountainNetModel" 173 me_fm_asItIs.1 ∈ mTb := (mm 1152 (by decide +kernel) rfl)
theorem ml_fm_176 : Cond.methodLink "FountainNetModel" 176 me_fm_runs.1 ∈ mTb := (mm 1156 (by decide +kernel) rfl)
theorem ml_lw_54 : Cond.methodLink "FountainNetLaw" 54 me_fm_head.1 ∈ mTb := (mm 1161 (by decide +kernel) rfl)
theorem ml_fm_182 : Cond.methodLink "FountainNetModel" 182 me_fm_refuseFar.1 ∈ mTb := (mm 1165 (by decide +kernel) rfl)
theorem ml_lw_58 : Cond.methodLink "FountainNetLaw" 58 me_fm_rise.1 ∈ mTb := (mm 1170 (by decide +kernel) rfl)
theorem ml_fm_185 : Cond.methodLink "FountainNetModel" 185 me_fm_riseOf.1 ∈ mTb := (mm 1174 (by decide +kernel) rfl)
theorem ml_lw_62 : Cond.methodLink "FountainNetLaw" 62 me_fm_share.1 ∈ mTb := (mm 1178 (by decide +kernel) rfl)
theorem ml_lw_66 : Cond.methodLink "FountainNetLaw" 66 me_fm_minutes.1 ∈ mTb := (mm 1182 (by decide +kernel) rfl)
theorem ml_fm_209 : Cond.methodLink "FountainNetModel" 209 me_fm_passes.1 ∈ mTb := (mm 1186 (by decide +kernel) rfl)
theorem ml_fm_188 : Cond.methodLink "FountainNetModel" 188 Lib.Math.max.name ∈ mTb := (mm 1190 (by decide +kernel) rfl)
theorem ml_fm_197 : Cond.methodLink "FountainNetModel" 197 Lib.Math.min.name ∈ mTb := (mm 1191 (by decide +kernel) rfl)
theorem ml_lw_70 : Cond.methodLink "FountainNetLaw" 70 me_fm_lasts.1 ∈ mTb := (mm 1192 (by decide +kernel) rfl)
theorem ml_lw_74 : Cond.methodLink "FountainNetLaw" 74 me_fm_view.1 ∈ mTb := (mm 1196 (by decide +kernel) rfl)
theorem ml_lw_79 : Cond.methodLink "FountainNetLaw" 79 me_fm_unview.1 ∈ mTb := (mm 1200 (by decide +kernel) rfl)
theorem ml_lw_83 : Cond.methodLink "FountainNetLaw" 83 me_fm_walk.1 ∈ mTb := (mm 1204 (by decide +kernel) rfl)
theorem ml_fm_240 : Cond.methodLink "FountainNetModel" 240 me_fm_hasWalk.1 ∈ mTb := (mm 1208 (by decide +kernel) rfl)
theorem ml_fm_244 : Cond.methodLink "FountainNetModel" 244 me_fm_walks.1 ∈ mTb := (mm 1212 (by decide +kernel) rfl)
theorem ml_fm_234 : Cond.methodLink "FountainNetModel" 234 me_fm_looksAt.1 ∈ mTb := (mm 1216 (by decide +kernel) rfl)
theorem ml_fm_237 : Cond.methodLink "FountainNetModel" 237 me_fm_viewAt.1 ∈ mTb := (mm 1220 (by decide +kernel) rfl)
theorem ml_lw_87 : Cond.methodLink "FountainNetLaw" 87 me_fm_most.1 ∈ mTb := (mm 1224 (by decide +kernel) rfl)
theorem ml_lw_91 : Cond.methodLink "FountainNetLaw" 91 me_fm_pace.1 ∈ mTb := (mm 1228 (by decide +kernel) rfl)
theorem ml_lw_95 : Cond.methodLink "FountainNetLaw" 95 me_fm_tasks.1 ∈ mTb := (mm 1232 (by decide +kernel) rfl)
theorem ml_fm_255 : Cond.methodLink "FountainNetModel" 255 me_fm_findTasks.1 ∈ mTb := (mm 1236 (by decide +kernel) rfl)
theorem ml_fm_251 : Cond.methodLink "FountainNetModel" 251 me_fm_adds.1 ∈ mTb := (mm 1240 (by decide +kernel) rfl)
theorem ml_lw_99 : Cond.methodLink "FountainNetLaw" 99 me_fm_task.1 ∈ mTb := (mm 1244 (by decide +kernel) rfl)
theorem ml_lw_103 : Cond.methodLink "FountainNetLaw" 103 me_fm_boys.1 ∈ mTb := (mm 1248 (by decide +kernel) rfl)
theorem ml_fm_264 : Cond.methodLink "FountainNetModel" 264 me_fm_leads.1 ∈ mTb := (mm 1252 (by decide +kernel) rfl)
theorem ml_fm_261 : Cond.methodLink "FountainNetModel" 261 me_fm_canFollow.1 ∈ mTb := (mm 1256 (by decide +kernel) rfl)
theorem ml_fm_258 : Cond.methodLink "FountainNetModel" 258 Lib.Math.abs.name ∈ mTb := (mm 1260 (by decide +kernel) rfl)
theorem ml_lw_107 : Cond.methodLink "FountainNetLaw" 107 me_fm_gauge.1 ∈ mTb := (mm 1261 (by decide +kernel) rfl)
theorem ml_lw_111 : Cond.methodLink "FountainNetLaw" 111 me_fm_tol.1 ∈ mTb := (mm 1265 (by decide +kernel) rfl)
theorem ml_lw_115 : Cond.methodLink "FountainNetLaw" 115 me_fm_explain.1 ∈ mTb := (mm 1269 (by decide +kernel) rfl)
theorem ml_fm_295 : Cond.methodLink "FountainNetModel" 295 me_fm_look.1 ∈ mTb := (mm 1273 (by decide +kernel) rfl)
theorem ml_fm_288 : Cond.methodLink "FountainNetModel" 288 me_fm_explains.1 ∈ mTb := (mm 1277 (by decide +kernel) rfl)
theorem ml_fm_291 : Cond.methodLink "FountainNetModel" 291 me_fm_two.1 ∈ mTb := (mm 1281 (by decide +kernel) rfl)
theorem ml_lw_119 : Cond.methodLink "FountainNetLaw" 119 me_fm_explained.1 ∈ mTb := (mm 1285 (by decide +kernel) rfl)
theorem ml_lw_123 : Cond.methodLink "FountainNetLaw" 123 me_fm_rivals.1 ∈ mTb := (mm 1289 (by decide +kernel) rfl)
theorem ml_lw_127 : Cond.methodLink "FountainNetLaw" 127 me_fm_empty.1 ∈ mTb := (mm 1293 (by decide +kernel) rfl)
theorem ml_fm_298 : Cond.methodLink "FountainNetModel" 298 me_fm_mayEmpty.1 ∈ mTb := (mm 1297 (by decide +kernel) rfl)
theorem ml_lw_131 : Cond.methodLink "FountainNetLaw" 131 me_fm_fill.1 ∈ mTb := (mm 1301 (by decide +kernel) rfl)
theorem ml_lw_135 : Cond.methodLink "FountainNetLaw" 135 me_fm_order.1 ∈ mTb := (mm 1305 (by decide +kernel) rfl)
theorem ml_lw_139 : Cond.methodLink "FountainNetLaw" 139 me_fm_tankOf.1 ∈ mTb := (mm 1309 (by decide +kernel) rfl)
theorem ml_lw_143 : Cond.methodLink "FountainNetLaw" 143 me_fm_jointOf.1 ∈ mTb := (mm 1313 (by decide +kernel) rfl)
theorem ml_lw_147 : Cond.methodLink "FountainNetLaw" 147 me_fm_count.1 ∈ mTb := (mm 1317 (by decide +kernel) rfl)
theorem cl_lw_7 : Cond.classLink "FountainNetLaw" 7 "FountainNet" ∈ mTb := (mm 67 (by decide +kernel) rfl)
theorem cl_fn_9 : Cond.classLink "FountainNet" 9 "FountainNet$Garden" ∈ mTb := (mm 75 (by decide +kernel) rfl)
theorem cl_ga_9 : Cond.classLink "FountainNet$Garden" 9 "java/util/ArrayList" ∈ mTb := (mm 81 (by decide +kernel) rfl)
theorem cl_fn_16 : Cond.classLink "FountainNet" 16 "java/util/ArrayList" ∈ mTb := (mm 134 (by decide +kernel) rfl)
theorem cl_fn_23 : Cond.classLink "FountainNet" 23 "FountainNet$Stroll" ∈ mTb := (mm 136 (by decide +kernel) rfl)
theorem cl_fn_32 : Cond.classLink "FountainNet" 32 "FountainNet$TaskList" ∈ mTb := (mm 173 (by decide +kernel) rfl)
theorem cl_fn_39 : Cond.classLink "FountainNet" 39 "FountainNet$LeakSearch" ∈ mTb := (mm 206 (by decide +kernel) rfl)
theorem cl_fn_67 : Cond.classLink "FountainNet" 67 "FountainNet$Tank" ∈ mTb := (mm 270 (by decide +kernel) rfl)
theorem cl_ar_110 : Cond.classLink "java/util/Arrays" 110 "[Ljava/lang/Object;" ∈ mTb := (mm 363 (by decide +kernel) rfl)
theorem cl_ar_2 : Cond.classLink "java/util/Arrays" 2 "java/lang/Object" ∈ mTb := (mm 365 (by decide +kernel) rfl)
theorem cl_al_7 : Cond.classLink "java/util/ArrayList" 7 "java/lang/Object" ∈ mTb := (mm 373 (by decide +kernel) rfl)
theorem cl_ga_32 : Cond.classLink "FountainNet$Garden" 32 "FountainNet$Tank" ∈ mTb := (mm 397 (by decide +kernel) rfl)
theorem cl_ga_34 : Cond.classLink "FountainNet$Garden" 34 "FountainNet$Joint" ∈ mTb := (mm 418 (by decide +kernel) rfl)
theorem cl_fn_101 : Cond.classLink "FountainNet" 101 "FountainNet$Joint" ∈ mTb := (mm 422 (by decide +kernel) rfl)
theorem cl_fn_116 : Cond.classLink "FountainNet" 116 "FountainNet$Jet" ∈ mTb := (mm 497 (by decide +kernel) rfl)
theorem cl_ga_36 : Cond.classLink "FountainNet$Garden" 36 "FountainNet$Jet" ∈ mTb := (mm 537 (by decide +kernel) rfl)
theorem cl_fn_188 : Cond.classLink "FountainNet" 188 "FountainNet$View" ∈ mTb := (mm 646 (by decide +kernel) rfl)
theorem cl_sr_42 : Cond.classLink "FountainNet$Stroll" 42 "FountainNet$View" ∈ mTb := (mm 704 (by decide +kernel) rfl)
theorem cl_sr_94 : Cond.classLink "FountainNet$Stroll" 94 "FountainNet$Tank" ∈ mTb := (mm 714 (by decide +kernel) rfl)
theorem cl_sr_71 : Cond.classLink "FountainNet$Stroll" 71 "FountainNet$Jet" ∈ mTb := (mm 721 (by decide +kernel) rfl)
theorem cl_tl_48 : Cond.classLink "FountainNet$TaskList" 48 "FountainNet$View" ∈ mTb := (mm 748 (by decide +kernel) rfl)
theorem cl_tl_68 : Cond.classLink "FountainNet$TaskList" 68 "FountainNet$Jet" ∈ mTb := (mm 753 (by decide +kernel) rfl)
theorem cl_lk_67 : Cond.classLink "FountainNet$LeakSearch" 67 "FountainNet$Jet" ∈ mTb := (mm 805 (by decide +kernel) rfl)
theorem cl_lk_41 : Cond.classLink "FountainNet$LeakSearch" 41 "FountainNet$Joint" ∈ mTb := (mm 812 (by decide +kernel) rfl)
theorem cl_lw_10 : Cond.classLink "FountainNetLaw" 10 "FountainNetModel" ∈ mTb := (mm 893 (by decide +kernel) rfl)
theorem co_as_200 : Cond.constant "jdk/internal/util/ArraysSupport" 200 (2147483639) ∈ mTb := (mm 338 (by decide +kernel) rfl)
theorem co_fn_307 : Cond.constant "FountainNet" 307 (1000000000) ∈ mTb := (mm 588 (by decide +kernel) rfl)
theorem co_sr_84 : Cond.constant "FountainNet$Stroll" 84 (60000) ∈ mTb := (mm 713 (by decide +kernel) rfl)
theorem co_it_265 : Cond.constant "java/lang/Integer" 265 (1431655765) ∈ mTb := (mm 882 (by decide +kernel) rfl)
theorem co_it_266 : Cond.constant "java/lang/Integer" 266 (858993459) ∈ mTb := (mm 883 (by decide +kernel) rfl)
theorem co_it_267 : Cond.constant "java/lang/Integer" 267 (252645135) ∈ mTb := (mm 884 (by decide +kernel) rfl)
theorem co_fm_132 : Cond.constant "FountainNetModel" 132 (1000000000) ∈ mTb := (mm 1169 (by decide +kernel) rfl)
theorem co_jn_30 : Cond.constantLong "FountainNet$Joint" 30 (100) ∈ mTb := (mm 579 (by decide +kernel) rfl)
theorem co_fm_171 : Cond.constantLong "FountainNetModel" 171 (100) ∈ mTb := (mm 1160 (by decide +kernel) rfl)
theorem in_0 : Cond.instantiable (mkd 0).1 (mkd 0).2.2 ∈ mTb := (mm 68 (by decide +kernel) rfl)
theorem iz_0 : Cond.initialized (mkd 0).1 ∈ mTb := (mm 47 (by decide +kernel) rfl)
theorem in_1 : Cond.instantiable (mkd 1).1 (mkd 1).2.2 ∈ mTb := (mm 76 (by decide +kernel) rfl)
theorem iz_1 : Cond.initialized (mkd 1).1 ∈ mTb := (mm 48 (by decide +kernel) rfl)
theorem in_2 : Cond.instantiable (mkd 2).1 (mkd 2).2.2 ∈ mTb := (mm 82 (by decide +kernel) rfl)
theorem iz_2 : Cond.initialized (mkd 2).1 ∈ mTb := (mm 51 (by decide +kernel) rfl)
theorem in_3 : Cond.instantiable (mkd 3).1 (mkd 3).2.2 ∈ mTb := (mm 137 (by decide +kernel) rfl)
theorem iz_3 : Cond.initialized (mkd 3).1 ∈ mTb := (mm 52 (by decide +kernel) rfl)
theorem in_4 : Cond.instantiable (mkd 4).1 (mkd 4).2.2 ∈ mTb := (mm 174 (by decide +kernel) rfl)
theorem iz_4 : Cond.initialized (mkd 4).1 ∈ mTb := (mm 53 (by decide +kernel) rfl)
theorem in_5 : Cond.instantiable (mkd 5).1 (mkd 5).2.2 ∈ mTb := (mm 207 (by decide +kernel) rfl)
theorem iz_5 : Cond.initialized (mkd 5).1 ∈ mTb := (mm 54 (by decide +kernel) rfl)
theorem in_6 : Cond.instantiable (mkd 6).1 (mkd 6).2.2 ∈ mTb := (mm 271 (by decide +kernel) rfl)
theorem iz_6 : Cond.initialized (mkd 6).1 ∈ mTb := (mm 56 (by decide +kernel) rfl)
theorem in_7 : Cond.instantiable (mkd 7).1 (mkd 7).2.2 ∈ mTb := (mm 423 (by decide +kernel) rfl)
theorem iz_7 : Cond.initialized (mkd 7).1 ∈ mTb := (mm 63 (by decide +kernel) rfl)
theorem in_8 : Cond.instantiable (mkd 8).1 (mkd 8).2.2 ∈ mTb := (mm 498 (by decide +kernel) rfl)
theorem iz_8 : Cond.initialized (mkd 8).1 ∈ mTb := (mm 64 (by decide +kernel) rfl)
theorem in_9 : Cond.instantiable (mkd 9).1 (mkd 9).2.2 ∈ mTb := (mm 647 (by decide +kernel) rfl)
theorem iz_9 : Cond.initialized (mkd 9).1 ∈ mTb := (mm 65 (by decide +kernel) rfl)
theorem in_10 : Cond.instantiable (mkd 10).1 (mkd 10).2.2 ∈ mTb := (mm 894 (by decide +kernel) rfl)
theorem iz_10 : Cond.initialized (mkd 10).1 ∈ mTb := (mm 55 (by decide +kernel) rfl)
theorem ac_int : Cond.arrayClass .int ∈ mTb := (mm 205 (by decide +kernel) rfl)
theorem ac_boolean : Cond.arrayClass .boolean ∈ mTb := (mm 1089 (by decide +kernel) rfl)
theorem fs_al_39 : Cond.fieldLink "java/util/ArrayList" 39 "java/util/ArrayList" "DEFAULTCAPACITY_EMPTY_ELEMENTDATA" "[Ljava/lang/Object;" ∈ mTb := (mm 93 (by decide +kernel) rfl)
theorem fl_al_9 : mFl "java/util/ArrayList" 9 2 0 := ⟨by decide, by decide, "java/util/ArrayList", (mm 95 (by decide +kernel) rfl), Or.inl rfl⟩
theorem fl_al_48 : mFl "java/util/ArrayList" 48 2 1 := ⟨by decide, by decide, "java/util/ArrayList", (mm 96 (by decide +kernel) rfl), Or.inl rfl⟩
theorem fl_ab_7 : mFl "java/util/AbstractList" 7 2 2 := ⟨by decide, by decide, "java/util/AbstractList", (mm 97 (by decide +kernel) rfl), Or.inl rfl⟩
theorem fl_al_63 : mFl "java/util/ArrayList" 63 2 2 := ⟨by decide, by decide, "java/util/ArrayList", (mm 98 (by decide +kernel) rfl), Or.inr (mm 99 (by decide +kernel) rfl)⟩
theorem fl_ga_12 : mFl "FountainNet$Garden" 12 1 0 := ⟨by decide, by decide, "FountainNet$Garden", (mm 107 (by decide +kernel) rfl), Or.inl rfl⟩
theorem fl_fn_60 : mFl "FountainNet" 60 1 0 := ⟨by decide, by decide, "FountainNet$Garden", (mm 108 (by decide +kernel) rfl), Or.inl rfl⟩
theorem fl_sr_91 : mFl "FountainNet$Stroll" 91 1 0 := ⟨by decide, by decide, "FountainNet$Garden", (mm 109 (by decide +kernel) rfl), Or.inl rfl⟩
theorem fl_ga_18 : mFl "FountainNet$Garden" 18 1 1 := ⟨by decide, by decide, "FountainNet$Garden", (mm 110 (by decide +kernel) rfl), Or.inl rfl⟩
theorem fl_lk_26 : mFl "FountainNet$LeakSearch" 26 1 1 := ⟨by decide, by decide, "FountainNet$Garden", (mm 111 (by decide +kernel) rfl), Or.inl rfl⟩
theorem fl_fn_97 : mFl "FountainNet" 97 1 1 := ⟨by decide, by decide, "FountainNet$Garden", (mm 112 (by decide +kernel) rfl), Or.inl rfl⟩
theorem fl_ga_21 : mFl "FountainNet$Garden" 21 1 2 := ⟨by decide, by decide, "FountainNet$Garden", (mm 113 (by decide +kernel) rfl), Or.inl rfl⟩
theorem fl_tl_63 : mFl "FountainNet$TaskList" 63 1 2 := ⟨by decide, by decide, "FountainNet$Garden", (mm 114 (by decide +kernel) rfl), Or.inl rfl⟩
theorem fl_lk_64 : mFl "FountainNet$LeakSearch" 64 1 2 := ⟨by decide, by decide, "FountainNet$Garden", (mm 115 (by decide +kernel) rfl), Or.inl rfl⟩
theorem fl_fn_113 : mFl "FountainNet" 113 1 2 := ⟨by decide, by decide, "FountainNet$Garden", (mm 116 (by decide +kernel) rfl), Or.inl rfl⟩
theorem fl_sr_108 : mFl "FountainNet$Stroll" 108 1 2 := ⟨by decide, by decide, "FountainNet$Garden", (mm 117 (by decide +kernel) rfl), Or.inl rfl⟩
theorem fl_ga_38 : mFl "FountainNet$Garden" 38 1 3 := ⟨by decide, by decide, "FountainNet$Garden", (mm 118 (by decide +kernel) rfl), Or.inl rfl⟩
theorem fl_fn_129 : mFl "FountainNet" 129 1 3 := ⟨by decide, by decide, "FountainNet$Garden", (mm 119 (by decide +kernel) rfl), Or.inl rfl⟩
theorem fl_lk_82 : mFl "FountainNet$LeakSearch" 82 1 3 := ⟨by decide, by decide, "FountainNet$Garden", (mm 120 (by decide +kernel) rfl), Or.inl rfl⟩
theorem fl_sr_23 : mFl "FountainNet$Stroll" 23 1 4 := ⟨by decide, by decide, "FountainNet$Garden", (mm 121 (by decide +kernel) rfl), Or.inl rfl⟩
theorem fl_fn_171 : mFl "FountainNet" 171 1 4 := ⟨by decide, by decide, "FountainNet$Garden", (mm 122 (by decide +kernel) rfl), Or.inl rfl⟩
theorem fl_sr_9 : mFl "FountainNet$Stroll" 9 3 0 := ⟨by decide, by decide, "FountainNet$Stroll", (mm 142 (by decide +kernel) rfl), Or.inl rfl⟩
theorem fl_sr_15 : mFl "FountainNet$Stroll" 15 3 1 := ⟨by decide, by decide, "FountainNet$Stroll", (mm 143 (by decide +kernel) rfl), Or.inl rfl⟩
theorem fl_sr_64 : mFl "FountainNet$Stroll" 64 3 2 := ⟨by decide, by decide, "FountainNet$Stroll", (mm 144 (by decide +kernel) rfl), Or.inl rfl⟩
theorem fl_fn_207 : mFl "FountainNet" 207 3 2 := ⟨by decide, by decide, "FountainNet$Stroll", (mm 145 (by decide +kernel) rfl), Or.inl rfl⟩
theorem fl_sr_67 : mFl "FountainNet$Stroll" 67 3 3 := ⟨by decide, by decide, "FountainNet$Stroll", (mm 146 (by decide +kernel) rfl), Or.inl rfl⟩
theorem fl_fn_210 : mFl "FountainNet" 210 3 3 := ⟨by decide, by decide, "FountainNet$Stroll", (mm 147 (by decide +kernel) rfl), Or.inl rfl⟩
theorem fl_sr_75 : mFl "FountainNet$Stroll" 75 3 4 := ⟨by decide, by decide, "FountainNet$Stroll", (mm 148 (by decide +kernel) rfl), Or.inl rfl⟩
theorem fl_fn_213 : mFl "FountainNet" 213 3 4 := ⟨by decide, by decide, "FountainNet$Stroll", (mm 149 (by decide +kernel) rfl), Or.inl rfl⟩
theorem fl_sr_81 : mFl "FountainNet$Stroll" 81 3 5 := ⟨by decide, by decide, "FountainNet$Stroll", (mm 150 (by decide +kernel) rfl), Or.inl rfl⟩
theorem fl_fn_216 : mFl "FountainNet" 216 3 5 := ⟨by decide, by decide, "FountainNet$Stroll", (mm 151 (by decide +kernel) rfl), Or.inl rfl⟩
theorem fl_sr_85 : mFl "FountainNet$Stroll" 85 3 6 := ⟨by decide, by decide, "FountainNet$Stroll", (mm 152 (by decide +kernel) rfl), Or.inl rfl⟩
theorem fl_fn_219 : mFl "FountainNet" 219 3 6 := ⟨by decide, by decide, "FountainNet$Stroll", (mm 153 (by decide +kernel) rfl), Or.inl rfl⟩
theorem fl_sr_88 : mFl "FountainNet$Stroll" 88 3 7 := ⟨by decide, by decide, "FountainNet$Stroll", (mm 154 (by decide +kernel) rfl), Or.inl rfl⟩
theorem fl_fn_222 : mFl "FountainNet" 222 3 7 := ⟨by decide, by decide, "FountainNet$Stroll", (mm 155 (by decide +kernel) rfl), Or.inl rfl⟩
theorem fl_tl_9 : mFl "FountainNet$TaskList" 9 4 0 := ⟨by decide, by decide, "FountainNet$TaskList", (mm 179 (by decide +kernel) rfl), Or.inl rfl⟩
theorem fl_tl_15 : mFl "FountainNet$TaskList" 15 4 1 := ⟨by decide, by decide, "FountainNet$TaskList", (mm 180 (by decide +kernel) rfl), Or.inl rfl⟩
theorem fl_tl_19 : mFl "FountainNet$TaskList" 19 4 2 := ⟨by decide, by decide, "FountainNet$TaskList", (mm 181 (by decide +kernel) rfl), Or.inl rfl⟩
theorem fl_tl_23 : mFl "FountainNet$TaskList" 23 4 3 := ⟨by decide, by decide, "FountainNet$TaskList", (mm 182 (by decide +kernel) rfl), Or.inl rfl⟩
theorem fl_tl_26 : mFl "FountainNet$TaskList" 26 4 4 := ⟨by decide, by decide, "FountainNet$TaskList", (mm 183 (by decide +kernel) rfl), Or.inl rfl⟩
theorem fl_tl_29 : mFl "FountainNet$TaskList" 29 4 5 := ⟨by decide, by decide, "FountainNet$TaskList", (mm 184 (by decide +kernel) rfl), Or.inl rfl⟩
theorem fl_tl_32 : mFl "FountainNet$TaskList" 32 4 6 := ⟨by decide, by decide, "FountainNet$TaskList", (mm 185 (by decide +kernel) rfl), Or.inl rfl⟩
theorem fl_tl_35 : mFl "FountainNet$TaskList" 35 4 7 := ⟨by decide, by decide, "FountainNet$TaskList", (mm 186 (by decide +kernel) rfl), Or.inl rfl⟩
theorem fl_fn_228 : mFl "FountainNet" 228 4 7 := ⟨by decide, by decide, "FountainNet$TaskList", (mm 187 (by decide +kernel) rfl), Or.inl rfl⟩
theorem fl_lk_9 : mFl "FountainNet$LeakSearch" 9 5 0 := ⟨by decide, by decide, "FountainNet$LeakSearch", (mm 212 (by decide +kernel) rfl), Or.inl rfl⟩
theorem fl_lk_106 : mFl "FountainNet$LeakSearch" 106 5 1 := ⟨by decide, by decide, "FountainNet$LeakSearch", (mm 213 (by decide +kernel) rfl), Or.inl rfl⟩
theorem fl_fn_238 : mFl "FountainNet" 238 5 1 := ⟨by decide, by decide, "FountainNet$LeakSearch", (mm 214 (by decide +kernel) rfl), Or.inl rfl⟩
theorem fl_lk_51 : mFl "FountainNet$LeakSearch" 51 5 2 := ⟨by decide, by decide, "FountainNet$LeakSearch", (mm 215 (by decide +kernel) rfl), Or.inl rfl⟩
theorem fl_fn_244 : mFl "FountainNet" 244 5 2 := ⟨by decide, by decide, "FountainNet$LeakSearch", (mm 216 (by decide +kernel) rfl), Or.inl rfl⟩
theorem fl_lk_55 : mFl "FountainNet$LeakSearch" 55 5 3 := ⟨by decide, by decide, "FountainNet$LeakSearch", (mm 217 (by decide +kernel) rfl), Or.inl rfl⟩
theorem fl_fn_247 : mFl "FountainNet" 247 5 3 := ⟨by decide, by decide, "FountainNet$LeakSearch", (mm 218 (by decide +kernel) rfl), Or.inl rfl⟩
theorem fl_lk_58 : mFl "FountainNet$LeakSearch" 58 5 4 := ⟨by decide, by decide, "FountainNet$LeakSearch", (mm 219 (by decide +kernel) rfl), Or.inl rfl⟩
theorem fl_fn_250 : mFl "FountainNet" 250 5 4 := ⟨by decide, by decide, "FountainNet$LeakSearch", (mm 220 (by decide +kernel) rfl), Or.inl rfl⟩
theorem fl_lk_61 : mFl "FountainNet$LeakSearch" 61 5 5 := ⟨by decide, by decide, "FountainNet$LeakSearch", (mm 221 (by decide +kernel) rfl), Or.inl rfl⟩
theorem fl_fn_253 : mFl "FountainNet" 253 5 5 := ⟨by decide, by decide, "FountainNet$LeakSearch", (mm 222 (by decide +kernel) rfl), Or.inl rfl⟩
theorem fl_fn_12 : mFl "FountainNet" 12 0 0 := ⟨by decide, by decide, "FountainNet", (mm 236 (by decide +kernel) rfl), Or.inl rfl⟩
theorem fl_fn_19 : mFl "FountainNet" 19 0 1 := ⟨by decide, by decide, "FountainNet", (mm 237 (by decide +kernel) rfl), Or.inl rfl⟩
theorem fl_fn_28 : mFl "FountainNet" 28 0 2 := ⟨by decide, by decide, "FountainNet", (mm 238 (by decide +kernel) rfl), Or.inl rfl⟩
theorem fl_fn_35 : mFl "FountainNet" 35 0 3 := ⟨by decide, by decide, "FountainNet", (mm 239 (by decide +kernel) rfl), Or.inl rfl⟩
theorem fl_fn_44 : mFl "FountainNet" 44 0 4 := ⟨by decide, by decide, "FountainNet", (mm 240 (by decide +kernel) rfl), Or.inl rfl⟩
theorem fl_fn_48 : mFl "FountainNet" 48 0 5 := ⟨by decide, by decide, "FountainNet", (mm 241 (by decide +kernel) rfl), Or.inl rfl⟩
theorem fl_fn_52 : mFl "FountainNet" 52 0 6 := ⟨by decide, by decide, "FountainNet", (mm 242 (by decide +kernel) rfl), Or.inl rfl⟩
theorem fl_tk_7 : mFl "FountainNet$Tank" 7 6 0 := ⟨by decide, by decide, "FountainNet$Tank", (mm 276 (by decide +kernel) rfl), Or.inl rfl⟩
theorem fl_fn_288 : mFl "FountainNet" 288 6 0 := ⟨by decide, by decide, "FountainNet$Tank", (mm 277 (by decide +kernel) rfl), Or.inl rfl⟩
theorem fl_tk_13 : mFl "FountainNet$Tank" 13 6 1 := ⟨by decide, by decide, "FountainNet$Tank", (mm 278 (by decide +kernel) rfl), Or.inl rfl⟩
theorem fl_tk_16 : mFl "FountainNet$Tank" 16 6 2 := ⟨by decide, by decide, "FountainNet$Tank", (mm 279 (by decide +kernel) rfl), Or.inl rfl⟩
theorem fl_tk_19 : mFl "FountainNet$Tank" 19 6 3 := ⟨by decide, by decide, "FountainNet$Tank", (mm 280 (by decide +kernel) rfl), Or.inl rfl⟩
theorem fl_tk_22 : mFl "FountainNet$Tank" 22 6 4 := ⟨by decide, by decide, "FountainNet$Tank", (mm 281 (by decide +kernel) rfl), Or.inl rfl⟩
theorem fl_fn_272 : mFl "FountainNet" 272 6 4 := ⟨by decide, by decide, "FountainNet$Tank", (mm 282 (by decide +kernel) rfl), Or.inl rfl⟩
theorem fl_tk_25 : mFl "FountainNet$Tank" 25 6 5 := ⟨by decide, by decide, "FountainNet$Tank", (mm 283 (by decide +kernel) rfl), Or.inl rfl⟩
theorem fl_sr_96 : mFl "FountainNet$Stroll" 96 6 5 := ⟨by decide, by decide, "FountainNet$Tank", (mm 284 (by decide +kernel) rfl), Or.inl rfl⟩
theorem fl_lk_97 : mFl "FountainNet$LeakSearch" 97 6 5 := ⟨by decide, by decide, "FountainNet$Tank", (mm 285 (by decide +kernel) rfl), Or.inl rfl⟩
theorem fl_fn_157 : mFl "FountainNet" 157 6 5 := ⟨by decide, by decide, "FountainNet$Tank", (mm 286 (by decide +kernel) rfl), Or.inl rfl⟩
theorem fl_tk_48 : mFl "FountainNet$Tank" 48 6 6 := ⟨by decide, by decide, "FountainNet$Tank", (mm 287 (by decide +kernel) rfl), Or.inl rfl⟩
theorem fl_fn_275 : mFl "FountainNet" 275 6 6 := ⟨by decide, by decide, "FountainNet$Tank", (mm 288 (by decide +kernel) rfl), Or.inl rfl⟩
theorem fl_tk_51 : mFl "FountainNet$Tank" 51 6 7 := ⟨by decide, by decide, "FountainNet$Tank", (mm 289 (by decide +kernel) rfl), Or.inl rfl⟩
theorem fl_fn_278 : mFl "FountainNet" 278 6 7 := ⟨by decide, by decide, "FountainNet$Tank", (mm 290 (by decide +kernel) rfl), Or.inl rfl⟩
theorem fl_tk_42 : mFl "FountainNet$Tank" 42 6 8 := ⟨by decide, by decide, "FountainNet$Tank", (mm 291 (by decide +kernel) rfl), Or.inl rfl⟩
theorem fl_ga_80 : mFl "FountainNet$Garden" 80 6 8 := ⟨by decide, by decide, "FountainNet$Tank", (mm 292 (by decide +kernel) rfl), Or.inl rfl⟩
theorem fl_fn_281 : mFl "FountainNet" 281 6 8 := ⟨by decide, by decide, "FountainNet$Tank", (mm 293 (by decide +kernel) rfl), Or.inl rfl⟩
theorem fl_sr_99 : mFl "FountainNet$Stroll" 99 6 9 := ⟨by decide, by decide, "FountainNet$Tank", (mm 294 (by decide +kernel) rfl), Or.inl rfl⟩
theorem fl_jn_7 : mFl "FountainNet$Joint" 7 7 0 := ⟨by decide, by decide, "FountainNet$Joint", (mm 428 (by decide +kernel) rfl), Or.inl rfl⟩
theorem fl_tl_78 : mFl "FountainNet$TaskList" 78 7 0 := ⟨by decide, by decide, "FountainNet$Joint", (mm 429 (by decide +kernel) rfl), Or.inl rfl⟩
theorem fl_lk_75 : mFl "FountainNet$LeakSearch" 75 7 0 := ⟨by decide, by decide, "FountainNet$Joint", (mm 430 (by decide +kernel) rfl), Or.inl rfl⟩
theorem fl_ga_92 : mFl "FountainNet$Garden" 92 7 0 := ⟨by decide, by decide, "FountainNet$Joint", (mm 431 (by decide +kernel) rfl), Or.inl rfl⟩
theorem fl_fn_291 : mFl "FountainNet" 291 7 0 := ⟨by decide, by decide, "FountainNet$Joint", (mm 432 (by decide +kernel) rfl), Or.inl rfl⟩
theorem fl_jn_13 : mFl "FountainNet$Joint" 13 7 1 := ⟨by decide, by decide, "FountainNet$Joint", (mm 433 (by decide +kernel) rfl), Or.inl rfl⟩
theorem fl_sr_119 : mFl "FountainNet$Stroll" 119 7 1 := ⟨by decide, by decide, "FountainNet$Joint", (mm 434 (by decide +kernel) rfl), Or.inl rfl⟩
theorem fl_ga_81 : mFl "FountainNet$Garden" 81 7 1 := ⟨by decide, by decide, "FountainNet$Joint", (mm 435 (by decide +kernel) rfl), Or.inl rfl⟩
theorem fl_lk_93 : mFl "FountainNet$LeakSearch" 93 7 1 := ⟨by decide, by decide, "FountainNet$Joint", (mm 436 (by decide +kernel) rfl), Or.inl rfl⟩
theorem fl_fn_153 : mFl "FountainNet" 153 7 1 := ⟨by decide, by decide, "FountainNet$Joint", (mm 437 (by decide +kernel) rfl), Or.inl rfl⟩
theorem fl_jn_17 : mFl "FountainNet$Joint" 17 7 2 := ⟨by decide, by decide, "FountainNet$Joint", (mm 438 (by decide +kernel) rfl), Or.inl rfl⟩
theorem fl_ga_73 : mFl "FountainNet$Garden" 73 7 2 := ⟨by decide, by decide, "FountainNet$Joint", (mm 439 (by decide +kernel) rfl), Or.inl rfl⟩
theorem fl_fn_263 : mFl "FountainNet" 263 7 2 := ⟨by decide, by decide, "FountainNet$Joint", (mm 440 (by decide +kernel) rfl), Or.inl rfl⟩
theorem fl_jn_21 : mFl "FountainNet$Joint" 21 7 3 := ⟨by decide, by decide, "FountainNet$Joint", (mm 441 (by decide +kernel) rfl), Or.inl rfl⟩
theorem fl_ga_101 : mFl "FountainNet$Garden" 101 7 3 := ⟨by decide, by decide, "FountainNet$Joint", (mm 442 (by decide +kernel) rfl), Or.inl rfl⟩
theorem fl_fn_282 : mFl "FountainNet" 282 7 3 := ⟨by decide, by decide, "FountainNet$Joint", (mm 443 (by decide +kernel) rfl), Or.inl rfl⟩
theorem fl_jn_27 : mFl "FountainNet$Joint" 27 7 4 := ⟨by decide, by decide, "FountainNet$Joint", (mm 444 (by decide +kernel) rfl), Or.inl rfl⟩
theorem fl_fn_285 : mFl "FountainNet" 285 7 4 := ⟨by decide, by decide, "FountainNet$Joint", (mm 445 (by decide +kernel) rfl), Or.inl rfl⟩
theorem fl_jn_24 : mFl "FountainNet$Joint" 24 7 5 := ⟨by decide, by decide, "FountainNet$Joint", (mm 446 (by decide +kernel) rfl), Or.inl rfl⟩
theorem fl_fn_139 : mFl "FountainNet" 139 7 5 := ⟨by decide, by decide, "FountainNet$Joint", (mm 447 (by decide +kernel) rfl), Or.inl rfl⟩
theorem fl_ga_63 : mFl "FountainNet$Garden" 63 7 6 := ⟨by decide, by decide, "FountainNet$Joint", (mm 448 (by decide +kernel) rfl), Or.inl rfl⟩
theorem fl_fn_141 : mFl "FountainNet" 141 7 6 := ⟨by decide, by decide, "FountainNet$Joint", (mm 449 (by decide +kernel) rfl), Or.inl rfl⟩
theorem fl_lk_72 : mFl "FountainNet$LeakSearch" 72 7 7 := ⟨by decide, by decide, "FountainNet$Joint", (mm 450 (by decide +kernel) rfl), Or.inl rfl⟩
theorem fl_ga_60 : mFl "FountainNet$Garden" 60 7 7 := ⟨by decide, by decide, "FountainNet$Joint", (mm 451 (by decide +kernel) rfl), Or.inl rfl⟩
theorem fl_jn_35 : mFl "FountainNet$Joint" 35 7 8 := ⟨by decide, by decide, "FountainNet$Joint", (mm 452 (by decide +kernel) rfl), Or.inl rfl⟩
theorem fl_fn_100 : mFl "FountainNet" 100 7 8 := ⟨by decide, by decide, "FountainNet$Joint", (mm 453 (by decide +kernel) rfl), Or.inl rfl⟩
theorem fl_ga_49 : mFl "FountainNet$Garden" 49 7 8 := ⟨by decide, by decide, "FountainNet$Joint", (mm 454 (by decide +kernel) rfl), Or.inl rfl⟩
theorem fl_jn_48 : mFl "FountainNet$Joint" 48 7 9 := ⟨by decide, by decide, "FountainNet$Joint", (mm 455 (by decide +kernel) rfl), Or.inl rfl⟩
theorem fl_fn_109 : mFl "FountainNet" 109 7 9 := ⟨by decide, by decide, "FountainNet$Joint", (mm 456 (by decide +kernel) rfl), Or.inl rfl⟩
theorem fl_jn_32 : mFl "FountainNet$Joint" 32 7 10 := ⟨by decide, by decide, "FountainNet$Joint", (mm 457 (by decide +kernel) rfl), Or.inl rfl⟩
theorem fl_ga_53 : mFl "FountainNet$Garden" 53 7 10 := ⟨by decide, by decide, "FountainNet$Joint", (mm 458 (by decide +kernel) rfl), Or.inl rfl⟩
theorem fl_fn_147 : mFl "FountainNet" 147 7 10 := ⟨by decide, by decide, "FountainNet$Joint", (mm 459 (by decide +kernel) rfl), Or.inl rfl⟩
theorem fl_jn_45 : mFl "FountainNet$Joint" 45 7 11 := ⟨by decide, by decide, "FountainNet$Joint", (mm 460 (by decide +kernel) rfl), Or.inl rfl⟩
theorem fl_ga_77 : mFl "FountainNet$Garden" 77 7 11 := ⟨by decide, by decide, "FountainNet$Joint", (mm 461 (by decide +kernel) rfl), Or.inl rfl⟩
theorem fl_ga_95 : mFl "FountainNet$Garden" 95 7 12 := ⟨by decide, by decide, "FountainNet$Joint", (mm 462 (by decide +kernel) rfl), Or.inl rfl⟩
theorem fl_ga_98 : mFl "FountainNet$Garden" 98 7 13 := ⟨by decide, by decide, "FountainNet$Joint", (mm 463 (by decide +kernel) rfl), Or.inl rfl⟩
theorem fl_je_7 : mFl "FountainNet$Jet" 7 8 0 := ⟨by decide, by decide, "FountainNet$Jet", (mm 503 (by decide +kernel) rfl), Or.inl rfl⟩
theorem fl_sr_70 : mFl "FountainNet$Stroll" 70 8 0 := ⟨by decide, by decide, "FountainNet$Jet", (mm 504 (by decide +kernel) rfl), Or.inl rfl⟩
theorem fl_fn_292 : mFl "FountainNet" 292 8 0 := ⟨by decide, by decide, "FountainNet$Jet", (mm 505 (by decide +kernel) rfl), Or.inl rfl⟩
theorem fl_je_13 : mFl "FountainNet$Jet" 13 8 1 := ⟨by decide, by decide, "FountainNet$Jet", (mm 506 (by decide +kernel) rfl), Or.inl rfl⟩
theorem fl_fn_136 : mFl "FountainNet" 136 8 1 := ⟨by decide, by decide, "FountainNet$Jet", (mm 507 (by decide +kernel) rfl), Or.inl rfl⟩
theorem fl_je_16 : mFl "FountainNet$Jet" 16 8 2 := ⟨by decide, by decide, "FountainNet$Jet", (mm 508 (by decide +kernel) rfl), Or.inl rfl⟩
theorem fl_tl_74 : mFl "FountainNet$TaskList" 74 8 2 := ⟨by decide, by decide, "FountainNet$Jet", (mm 509 (by decide +kernel) rfl), Or.inl rfl⟩
theorem fl_fn_125 : mFl "FountainNet" 125 8 2 := ⟨by decide, by decide, "FountainNet$Jet", (mm 510 (by decide +kernel) rfl), Or.inl rfl⟩
theorem fl_sr_115 : mFl "FountainNet$Stroll" 115 8 2 := ⟨by decide, by decide, "FountainNet$Jet", (mm 511 (by decide +kernel) rfl), Or.inl rfl⟩
theorem fl_lk_89 : mFl "FountainNet$LeakSearch" 89 8 2 := ⟨by decide, by decide, "FountainNet$Jet", (mm 512 (by decide +kernel) rfl), Or.inl rfl⟩
theorem fl_je_20 : mFl "FountainNet$Jet" 20 8 3 := ⟨by decide, by decide, "FountainNet$Jet", (mm 513 (by decide +kernel) rfl), Or.inl rfl⟩
theorem fl_jn_58 : mFl "FountainNet$Joint" 58 8 3 := ⟨by decide, by decide, "FountainNet$Jet", (mm 514 (by decide +kernel) rfl), Or.inl rfl⟩
theorem fl_je_23 : mFl "FountainNet$Jet" 23 8 4 := ⟨by decide, by decide, "FountainNet$Jet", (mm 515 (by decide +kernel) rfl), Or.inl rfl⟩
theorem fl_lk_69 : mFl "FountainNet$LeakSearch" 69 8 4 := ⟨by decide, by decide, "FountainNet$Jet", (mm 516 (by decide +kernel) rfl), Or.inl rfl⟩
theorem fl_fn_235 : mFl "FountainNet" 235 8 4 := ⟨by decide, by decide, "FountainNet$Jet", (mm 517 (by decide +kernel) rfl), Or.inl rfl⟩
theorem fl_vw_7 : mFl "FountainNet$View" 7 9 0 := ⟨by decide, by decide, "FountainNet$View", (mm 652 (by decide +kernel) rfl), Or.inl rfl⟩
theorem fl_tl_57 : mFl "FountainNet$TaskList" 57 9 0 := ⟨by decide, by decide, "FountainNet$View", (mm 653 (by decide +kernel) rfl), Or.inl rfl⟩
theorem fl_sr_53 : mFl "FountainNet$Stroll" 53 9 0 := ⟨by decide, by decide, "FountainNet$View", (mm 654 (by decide +kernel) rfl), Or.inl rfl⟩
theorem fl_vw_13 : mFl "FountainNet$View" 13 9 1 := ⟨by decide, by decide, "FountainNet$View", (mm 655 (by decide +kernel) rfl), Or.inl rfl⟩
theorem fl_tl_50 : mFl "FountainNet$TaskList" 50 9 1 := ⟨by decide, by decide, "FountainNet$View", (mm 656 (by decide +kernel) rfl), Or.inl rfl⟩
theorem fl_sr_50 : mFl "FountainNet$Stroll" 50 9 1 := ⟨by decide, by decide, "FountainNet$View", (mm 657 (by decide +kernel) rfl), Or.inl rfl⟩
theorem fl_vw_16 : mFl "FountainNet$View" 16 9 2 := ⟨by decide, by decide, "FountainNet$View", (mm 658 (by decide +kernel) rfl), Or.inl rfl⟩
theorem fl_tl_60 : mFl "FountainNet$TaskList" 60 9 2 := ⟨by decide, by decide, "FountainNet$View", (mm 659 (by decide +kernel) rfl), Or.inl rfl⟩
theorem fl_sr_44 : mFl "FountainNet$Stroll" 44 9 2 := ⟨by decide, by decide, "FountainNet$View", (mm 660 (by decide +kernel) rfl), Or.inl rfl⟩
theorem fl_fn_190 : mFl "FountainNet" 190 9 2 := ⟨by decide, by decide, "FountainNet$View", (mm 661 (by decide +kernel) rfl), Or.inl rfl⟩
theorem fl_vw_19 : mFl "FountainNet$View" 19 9 3 := ⟨by decide, by decide, "FountainNet$View", (mm 662 (by decide +kernel) rfl), Or.inl rfl⟩
theorem fl_sr_128 : mFl "FountainNet$Stroll" 128 9 3 := ⟨by decide, by decide, "FountainNet$View", (mm 663 (by decide +kernel) rfl), Or.inl rfl⟩
theorem fl_fm_9 : mFl "FountainNetModel" 9 10 0 := ⟨by decide, by decide, "FountainNetModel", (mm 899 (by decide +kernel) rfl), Or.inl rfl⟩
theorem fl_fm_206 : mFl "FountainNetModel" 206 10 1 := ⟨by decide, by decide, "FountainNetModel", (mm 900 (by decide +kernel) rfl), Or.inl rfl⟩
theorem fl_fm_141 : mFl "FountainNetModel" 141 10 2 := ⟨by decide, by decide, "FountainNetModel", (mm 901 (by decide +kernel) rfl), Or.inl rfl⟩
theorem fl_fm_155 : mFl "FountainNetModel" 155 10 3 := ⟨by decide, by decide, "FountainNetModel", (mm 902 (by decide +kernel) rfl), Or.inl rfl⟩
theorem fl_fm_158 : mFl "FountainNetModel" 158 10 4 := ⟨by decide, by decide, "FountainNetModel", (mm 903 (by decide +kernel) rfl), Or.inl rfl⟩
theorem fl_fm_213 : mFl "FountainNetModel" 213 10 5 := ⟨by decide, by decide, "FountainNetModel", (mm 904 (by decide +kernel) rfl), Or.inl rfl⟩
theorem fl_fm_13 : mFl "FountainNetModel" 13 10 6 := ⟨by decide, by decide, "FountainNetModel", (mm 905 (by decide +kernel) rfl), Or.inl rfl⟩
theorem fl_fm_267 : mFl "FountainNetModel" 267 10 7 := ⟨by decide, by decide, "FountainNetModel", (mm 906 (by decide +kernel) rfl), Or.inl rfl⟩
theorem fl_fm_17 : mFl "FountainNetModel" 17 10 8 := ⟨by decide, by decide, "FountainNetModel", (mm 907 (by decide +kernel) rfl), Or.inl rfl⟩
theorem fl_fm_20 : mFl "FountainNetModel" 20 10 9 := ⟨by decide, by decide, "FountainNetModel", (mm 908 (by decide +kernel) rfl), Or.inl rfl⟩
theorem fl_fm_23 : mFl "FountainNetModel" 23 10 10 := ⟨by decide, by decide, "FountainNetModel", (mm 909 (by decide +kernel) rfl), Or.inl rfl⟩
theorem fl_fm_26 : mFl "FountainNetModel" 26 10 11 := ⟨by decide, by decide, "FountainNetModel", (mm 910 (by decide +kernel) rfl), Or.inl rfl⟩
theorem fl_fm_29 : mFl "FountainNetModel" 29 10 12 := ⟨by decide, by decide, "FountainNetModel", (mm 911 (by decide +kernel) rfl), Or.inl rfl⟩
theorem fl_fm_32 : mFl "FountainNetModel" 32 10 13 := ⟨by decide, by decide, "FountainNetModel", (mm 912 (by decide +kernel) rfl), Or.inl rfl⟩
theorem fl_fm_35 : mFl "FountainNetModel" 35 10 14 := ⟨by decide, by decide, "FountainNetModel", (mm 913 (by decide +kernel) rfl), Or.inl rfl⟩
theorem fl_fm_38 : mFl "FountainNetModel" 38 10 15 := ⟨by decide, by decide, "FountainNetModel", (mm 914 (by decide +kernel) rfl), Or.inl rfl⟩
theorem fl_fm_41 : mFl "FountainNetModel" 41 10 16 := ⟨by decide, by decide, "FountainNetModel", (mm 915 (by decide +kernel) rfl), Or.inl rfl⟩
theorem fl_fm_44 : mFl "FountainNetModel" 44 10 17 := ⟨by decide, by decide, "FountainNetModel", (mm 916 (by decide +kernel) rfl), Or.inl rfl⟩
theorem fl_fm_47 : mFl "FountainNetModel" 47 10 18 := ⟨by decide, by decide, "FountainNetModel", (mm 917 (by decide +kernel) rfl), Or.inl rfl⟩
theorem fl_fm_50 : mFl "FountainNetModel" 50 10 19 := ⟨by decide, by decide, "FountainNetModel", (mm 918 (by decide +kernel) rfl), Or.inl rfl⟩
theorem fl_fm_53 : mFl "FountainNetModel" 53 10 20 := ⟨by decide, by decide, "FountainNetModel", (mm 919 (by decide +kernel) rfl), Or.inl rfl⟩
theorem fl_fm_56 : mFl "FountainNetModel" 56 10 21 := ⟨by decide, by decide, "FountainNetModel", (mm 920 (by decide +kernel) rfl), Or.inl rfl⟩
theorem fl_fm_59 : mFl "FountainNetModel" 59 10 22 := ⟨by decide, by decide, "FountainNetModel", (mm 921 (by decide +kernel) rfl), Or.inl rfl⟩
theorem fl_fm_63 : mFl "FountainNetModel" 63 10 23 := ⟨by decide, by decide, "FountainNetModel", (mm 922 (by decide +kernel) rfl), Or.inl rfl⟩
theorem fl_fm_66 : mFl "FountainNetModel" 66 10 24 := ⟨by decide, by decide, "FountainNetModel", (mm 923 (by decide +kernel) rfl), Or.inl rfl⟩
theorem fl_fm_69 : mFl "FountainNetModel" 69 10 25 := ⟨by decide, by decide, "FountainNetModel", (mm 924 (by decide +kernel) rfl), Or.inl rfl⟩
theorem fl_fm_72 : mFl "FountainNetModel" 72 10 26 := ⟨by decide, by decide, "FountainNetModel", (mm 925 (by decide +kernel) rfl), Or.inl rfl⟩
theorem fl_fm_75 : mFl "FountainNetModel" 75 10 27 := ⟨by decide, by decide, "FountainNetModel", (mm 926 (by decide +kernel) rfl), Or.inl rfl⟩
theorem fl_fm_78 : mFl "FountainNetModel" 78 10 28 := ⟨by decide, by decide, "FountainNetModel", (mm 927 (by decide +kernel) rfl), Or.inl rfl⟩
theorem fl_fm_81 : mFl "FountainNetModel" 81 10 29 := ⟨by decide, by decide, "FountainNetModel", (mm 928 (by decide +kernel) rfl), Or.inl rfl⟩
theorem fl_fm_84 : mFl "FountainNetModel" 84 10 30 := ⟨by decide, by decide, "FountainNetModel", (mm 929 (by decide +kernel) rfl), Or.inl rfl⟩
theorem fl_fm_87 : mFl "FountainNetModel" 87 10 31 := ⟨by decide, by decide, "FountainNetModel", (mm 930 (by decide +kernel) rfl), Or.inl rfl⟩
theorem fl_fm_90 : mFl "FountainNetModel" 90 10 32 := ⟨by decide, by decide, "FountainNetModel", (mm 931 (by decide +kernel) rfl), Or.inl rfl⟩
theorem fl_fm_93 : mFl "FountainNetModel" 93 10 33 := ⟨by decide, by decide, "FountainNetModel", (mm 932 (by decide +kernel) rfl), Or.inl rfl⟩
theorem fl_fm_96 : mFl "FountainNetModel" 96 10 34 := ⟨by decide, by decide, "FountainNetModel", (mm 933 (by decide +kernel) rfl), Or.inl rfl⟩
theorem fl_fm_99 : mFl "FountainNetModel" 99 10 35 := ⟨by decide, by decide, "FountainNetModel", (mm 934 (by decide +kernel) rfl), Or.inl rfl⟩
theorem fl_fm_102 : mFl "FountainNetModel" 102 10 36 := ⟨by decide, by decide, "FountainNetModel", (mm 935 (by decide +kernel) rfl), Or.inl rfl⟩
theorem fl_fm_105 : mFl "FountainNetModel" 105 10 37 := ⟨by decide, by decide, "FountainNetModel", (mm 936 (by decide +kernel) rfl), Or.inl rfl⟩
theorem fl_fm_108 : mFl "FountainNetModel" 108 10 38 := ⟨by decide, by decide, "FountainNetModel", (mm 937 (by decide +kernel) rfl), Or.inl rfl⟩
theorem fl_fm_111 : mFl "FountainNetModel" 111 10 39 := ⟨by decide, by decide, "FountainNetModel", (mm 938 (by decide +kernel) rfl), Or.inl rfl⟩
theorem fl_fm_194 : mFl "FountainNetModel" 194 10 40 := ⟨by decide, by decide, "FountainNetModel", (mm 939 (by decide +kernel) rfl), Or.inl rfl⟩
theorem fl_fm_200 : mFl "FountainNetModel" 200 10 41 := ⟨by decide, by decide, "FountainNetModel", (mm 940 (by decide +kernel) rfl), Or.inl rfl⟩
theorem fl_fm_203 : mFl "FountainNetModel" 203 10 42 := ⟨by decide, by decide, "FountainNetModel", (mm 941 (by decide +kernel) rfl), Or.inl rfl⟩
theorem fl_fm_216 : mFl "FountainNetModel" 216 10 43 := ⟨by decide, by decide, "FountainNetModel", (mm 942 (by decide +kernel) rfl), Or.inl rfl⟩
theorem fl_fm_219 : mFl "FountainNetModel" 219 10 44 := ⟨by decide, by decide, "FountainNetModel", (mm 943 (by decide +kernel) rfl), Or.inl rfl⟩
theorem fl_fm_222 : mFl "FountainNetModel" 222 10 45 := ⟨by decide, by decide, "FountainNetModel", (mm 944 (by decide +kernel) rfl), Or.inl rfl⟩
theorem fl_fm_225 : mFl "FountainNetModel" 225 10 46 := ⟨by decide, by decide, "FountainNetModel", (mm 945 (by decide +kernel) rfl), Or.inl rfl⟩
theorem fl_fm_228 : mFl "FountainNetModel" 228 10 47 := ⟨by decide, by decide, "FountainNetModel", (mm 946 (by decide +kernel) rfl), Or.inl rfl⟩
theorem fl_fm_231 : mFl "FountainNetModel" 231 10 48 := ⟨by decide, by decide, "FountainNetModel", (mm 947 (by decide +kernel) rfl), Or.inl rfl⟩
theorem fl_fm_114 : mFl "FountainNetModel" 114 10 49 := ⟨by decide, by decide, "FountainNetModel", (mm 948 (by decide +kernel) rfl), Or.inl rfl⟩
theorem fl_fm_117 : mFl "FountainNetModel" 117 10 50 := ⟨by decide, by decide, "FountainNetModel", (mm 949 (by decide +kernel) rfl), Or.inl rfl⟩
theorem fl_fm_120 : mFl "FountainNetModel" 120 10 51 := ⟨by decide, by decide, "FountainNetModel", (mm 950 (by decide +kernel) rfl), Or.inl rfl⟩
theorem fl_fm_248 : mFl "FountainNetModel" 248 10 52 := ⟨by decide, by decide, "FountainNetModel", (mm 951 (by decide +kernel) rfl), Or.inl rfl⟩
theorem fl_fm_123 : mFl "FountainNetModel" 123 10 53 := ⟨by decide, by decide, "FountainNetModel", (mm 952 (by decide +kernel) rfl), Or.inl rfl⟩
theorem fl_fm_126 : mFl "FountainNetModel" 126 10 54 := ⟨by decide, by decide, "FountainNetModel", (mm 953 (by decide +kernel) rfl), Or.inl rfl⟩
theorem fl_fm_137 : mFl "FountainNetModel" 137 10 55 := ⟨by decide, by decide, "FountainNetModel", (mm 954 (by decide +kernel) rfl), Or.inl rfl⟩
theorem fl_fm_270 : mFl "FountainNetModel" 270 10 56 := ⟨by decide, by decide, "FountainNetModel", (mm 955 (by decide +kernel) rfl), Or.inl rfl⟩
theorem fl_fm_273 : mFl "FountainNetModel" 273 10 57 := ⟨by decide, by decide, "FountainNetModel", (mm 956 (by decide +kernel) rfl), Or.inl rfl⟩
theorem fl_fm_276 : mFl "FountainNetModel" 276 10 58 := ⟨by decide, by decide, "FountainNetModel", (mm 957 (by decide +kernel) rfl), Or.inl rfl⟩
theorem fl_fm_279 : mFl "FountainNetModel" 279 10 59 := ⟨by decide, by decide, "FountainNetModel", (mm 958 (by decide +kernel) rfl), Or.inl rfl⟩
theorem fl_fm_282 : mFl "FountainNetModel" 282 10 60 := ⟨by decide, by decide, "FountainNetModel", (mm 959 (by decide +kernel) rfl), Or.inl rfl⟩
theorem fl_fm_285 : mFl "FountainNetModel" 285 10 61 := ⟨by decide, by decide, "FountainNetModel", (mm 960 (by decide +kernel) rfl), Or.inl rfl⟩
theorem fl_fm_129 : mFl "FountainNetModel" 129 10 62 := ⟨by decide, by decide, "FountainNetModel", (mm 961 (by decide +kernel) rfl), Or.inl rfl⟩
