/-! the class's methods: numbers, tables (written by wip/whole/gen_cls.py out of the printed listing and part 15) -/
abbrev n_Ar_fill_AIIV : Nat := 4
abbrev n_P_feed : Nat := 12
abbrev n_By_room : Nat := 13
abbrev n_P_feedInt : Nat := 14
abbrev n_By_add : Nat := 15
abbrev n_By_size : Nat := 16
abbrev n_P_end : Nat := 17
abbrev n_By_cut : Nat := 18
abbrev n_P_pattern : Nat := 19
abbrev n_P_takeTape : Nat := 20
abbrev n_P_programAt : Nat := 21
abbrev n_Re_read : Nat := 22
abbrev n_Tr_clear : Nat := 23
abbrev n_Se_clear : Nat := 24
abbrev n_Re_readWays : Nat := 25
abbrev n_Re_readRow : Nat := 26
abbrev n_Re_isBroken : Nat := 27
abbrev n_Re_see : Nat := 28
abbrev n_By_at : Nat := 29
abbrev n_Re_isRowEnd : Nat := 30
abbrev n_Re_readPart : Nat := 31
abbrev n_Re_readAtom : Nat := 32
abbrev n_Re_readBracket : Nat := 33
abbrev n_Re_bracketKind : Nat := 34
abbrev n_Re_breakAt : Nat := 35
abbrev n_Tr_weightOf : Nat := 36
abbrev n_P_cell : Nat := 37
abbrev n_Tr_add : Nat := 38
abbrev n_P_put : Nat := 39
abbrev n_Re_readSet : Nat := 40
abbrev n_Tr_sets : Nat := 41
abbrev n_Se_open : Nat := 42
abbrev n_Re_readMember : Nat := 43
abbrev n_Re_readEscapedMember : Nat := 44
abbrev n_Re_classOf : Nat := 45
abbrev n_Se_addClass : Nat := 46
abbrev n_P_isLetter : Nat := 47
abbrev n_P_isDigit_IZ : Nat := 48
abbrev n_Se_addRange : Nat := 49
abbrev n_Se_turnRound : Nat := 50
abbrev n_Re_readEscape : Nat := 51
abbrev n_Re_addClass : Nat := 52
abbrev n_Re_isQuantifier : Nat := 53
abbrev n_Tr_kindOf : Nat := 54
abbrev n_Re_readRounds : Nat := 55
abbrev n_Re_readNumber : Nat := 56
abbrev n_Re_readMost : Nat := 57
abbrev n_Tr_addRounds : Nat := 58
abbrev n_Tr_chain : Nat := 59
abbrev n_Re_root : Nat := 60
abbrev n_Re_groups : Nat := 61
abbrev n_Bu_build : Nat := 62
abbrev n_Pr_clear : Nat := 63
abbrev n_Pr_add : Nat := 64
abbrev n_Bu_buildWays : Nat := 65
abbrev n_Tr_innerOf : Nat := 66
abbrev n_Bu_buildRow : Nat := 67
abbrev n_Bu_buildPart : Nat := 68
abbrev n_Bu_buildRounds : Nat := 69
abbrev n_Tr_valueOf : Nat := 70
abbrev n_Bu_buildMore : Nat := 71
abbrev n_Tr_mostOf : Nat := 72
abbrev n_Bu_branch : Nat := 73
abbrev n_Pr_branch : Nat := 74
abbrev n_Tr_leastOf : Nat := 75
abbrev n_Bu_buildLeast : Nat := 76
abbrev n_Bu_buildGroup : Nat := 77
abbrev n_Bu_buildAhead : Nat := 78
abbrev n_Tr_beforeOf : Nat := 79
abbrev n_Pr_finish : Nat := 80
abbrev n_Se_copy : Nat := 81
abbrev n_Tr_onlySet : Nat := 82
abbrev n_Pr_weight : Nat := 83
abbrev n_P_text : Nat := 84
abbrev n_P_textAt : Nat := 85
abbrev n_By_copy : Nat := 86
abbrev n_By_addPart : Nat := 87
abbrev n_P_match : Nat := 88
abbrev n_P_needPattern : Nat := 89
abbrev n_Wa_prepare : Nat := 90
abbrev n_Pr_slots : Nat := 91
abbrev n_Fl_clear : Nat := 92
abbrev n_Ar_fill_AIIIIV : Nat := 93
abbrev n_Ar_rangeCheck : Nat := 94
abbrev n_Ar_copyOfRangeByte : Nat := 95
abbrev n_Ar_checkLength : Nat := 96
abbrev n_Wa_tryPlaces : Nat := 97
abbrev n_Pi_clear : Nat := 98
abbrev n_Pr_entry : Nat := 99
abbrev n_Wa_walk : Nat := 100
abbrev n_Pi_size : Nat := 101
abbrev n_Wa_advance : Nat := 102
abbrev n_Pr_valueOf : Nat := 103
abbrev n_Pr_kindOf : Nat := 104
abbrev n_Wa_take : Nat := 105
abbrev n_Pr_depthOf : Nat := 106
abbrev n_Wa_pass : Nat := 107
abbrev n_Pr_nextOf : Nat := 108
abbrev n_Pr_holds : Nat := 109
abbrev n_Se_holds : Nat := 110
abbrev n_Wa_chooseFirst : Nat := 111
abbrev n_Wa_key : Nat := 112
abbrev n_Pr_slotOf : Nat := 113
abbrev n_Fl_has : Nat := 114
abbrev n_Fl_at : Nat := 115
abbrev n_Pi_pack : Nat := 116
abbrev n_Pi_push : Nat := 117
abbrev n_Ar_copyOf : Nat := 118
abbrev n_Wa_endRound : Nat := 119
abbrev n_Wa_setMark : Nat := 120
abbrev n_Wa_mark : Nat := 121
abbrev n_Wa_isEdge : Nat := 122
abbrev n_Wa_isWord : Nat := 123
abbrev n_Wa_walkApart : Nat := 124
abbrev n_Pr_otherOf : Nat := 125
abbrev n_Pi_dropWays : Nat := 126
abbrev n_Pi_stepOf : Nat := 127
abbrev n_Pi_kindOf : Nat := 128
abbrev n_Wa_goBack : Nat := 129
abbrev n_Pi_pop : Nat := 130
abbrev n_Pi_placeOf : Nat := 131
abbrev n_Pi_takenOf : Nat := 132
abbrev n_Fl_add : Nat := 133
abbrev n_Wa_copyMarks : Nat := 134
abbrev n_P_group : Nat := 135
abbrev n_P_needPart : Nat := 136
abbrev n_P_find : Nat := 137
abbrev n_P_needShort : Nat := 138
abbrev n_Fo_clear : Nat := 139
abbrev n_Fo_add : Nat := 140
abbrev n_Wa_placeBehind : Nat := 141
abbrev n_Fo_amount : Nat := 142
abbrev n_P_found : Nat := 143
abbrev n_Fo_bound : Nat := 144
abbrev n_P_replace : Nat := 145
abbrev n_P_wrongPlace : Nat := 146
abbrev n_P_isDigit_IZn : Nat := 147
abbrev n_P_writeReplaced : Nat := 148
abbrev n_P_writeModel : Nat := 149
abbrev n_P_writeSign : Nat := 150
abbrev n_P_swapFound : Nat := 151
abbrev n_P_span : Nat := 152
abbrev n_Pr_onlySet : Nat := 153
abbrev n_P_word : Nat := 154
abbrev n_P_count : Nat := 155
abbrev n_Pr_groups : Nat := 156
theorem mi_Ar_fill_AIIV : q_ms n_Ar_fill_AIIV = (1, 13, prog_32_method_103_code, 4, none, 2, ⟨"java/util/Arrays", "fill", "([II)V"⟩) := rfl
theorem own_Ar_fill_AIIV : (q_ms n_Ar_fill_AIIV).2.1 = 13 := (mi_at mi_Ar_fill_AIIV).1
theorem nl_Ar_fill_AIIV : (q_ms n_Ar_fill_AIIV).2.2.2.1 = 4 := (mi_at mi_Ar_fill_AIIV).2.1
theorem rt_Ar_fill_AIIV : (q_ms n_Ar_fill_AIIV).2.2.2.2.1 = none := (mi_at mi_Ar_fill_AIIV).2.2.1
theorem vk_Ar_fill_AIIV : (q_ms n_Ar_fill_AIIV).1 = 1 ∧ (q_ms n_Ar_fill_AIIV).2.2.2.2.2.1 = 2 := ⟨(mi_at mi_Ar_fill_AIIV).2.2.2.1, (mi_at mi_Ar_fill_AIIV).2.2.2.2⟩
theorem mi_P_feed : q_ms n_P_feed = (0, 10, prog_1_method_2_code, 6, (some ClassFile.FieldType.int), 5, ⟨"PatternTrier", "feed", "(IIIII)I"⟩) := rfl
theorem own_P_feed : (q_ms n_P_feed).2.1 = 10 := (mi_at mi_P_feed).1
theorem nl_P_feed : (q_ms n_P_feed).2.2.2.1 = 6 := (mi_at mi_P_feed).2.1
theorem rt_P_feed : (q_ms n_P_feed).2.2.2.2.1 = (some ClassFile.FieldType.int) := (mi_at mi_P_feed).2.2.1
theorem vk_P_feed : (q_ms n_P_feed).1 = 0 ∧ (q_ms n_P_feed).2.1 = 10 ∧ (q_ms n_P_feed).2.2.2.2.2.1 = 5 := ⟨(mi_at mi_P_feed).2.2.2.1, (mi_at mi_P_feed).1, (mi_at mi_P_feed).2.2.2.2⟩
theorem mi_By_room : q_ms n_By_room = (0, 1, prog_3_method_3_code, 1, (some ClassFile.FieldType.int), 0, ⟨"PatternTrier$Bytes", "room", "()I"⟩) := rfl
theorem own_By_room : (q_ms n_By_room).2.1 = 1 := (mi_at mi_By_room).1
theorem nl_By_room : (q_ms n_By_room).2.2.2.1 = 1 := (mi_at mi_By_room).2.1
theorem rt_By_room : (q_ms n_By_room).2.2.2.2.1 = (some ClassFile.FieldType.int) := (mi_at mi_By_room).2.2.1
theorem vk_By_room : (q_ms n_By_room).1 = 0 ∧ (q_ms n_By_room).2.1 = 1 ∧ (q_ms n_By_room).2.2.2.2.2.1 = 0 := ⟨(mi_at mi_By_room).2.2.2.1, (mi_at mi_By_room).1, (mi_at mi_By_room).2.2.2.2⟩
theorem mi_P_feedInt : q_ms n_P_feedInt = (0, 10, prog_1_method_14_code, 3, none, 1, ⟨"PatternTrier", "feedInt", "(I)V"⟩) := rfl
theorem own_P_feedInt : (q_ms n_P_feedInt).2.1 = 10 := (mi_at mi_P_feedInt).1
theorem nl_P_feedInt : (q_ms n_P_feedInt).2.2.2.1 = 3 := (mi_at mi_P_feedInt).2.1
theorem rt_P_feedInt : (q_ms n_P_feedInt).2.2.2.2.1 = none := (mi_at mi_P_feedInt).2.2.1
theorem vk_P_feedInt : (q_ms n_P_feedInt).1 = 0 ∧ (q_ms n_P_feedInt).2.1 = 10 ∧ (q_ms n_P_feedInt).2.2.2.2.2.1 = 1 := ⟨(mi_at mi_P_feedInt).2.2.2.1, (mi_at mi_P_feedInt).1, (mi_at mi_P_feedInt).2.2.2.2⟩
theorem mi_By_add : q_ms n_By_add = (0, 1, prog_3_method_5_code, 2, (some ClassFile.FieldType.boolean), 1, ⟨"PatternTrier$Bytes", "add", "(I)Z"⟩) := rfl
theorem own_By_add : (q_ms n_By_add).2.1 = 1 := (mi_at mi_By_add).1
theorem nl_By_add : (q_ms n_By_add).2.2.2.1 = 2 := (mi_at mi_By_add).2.1
theorem rt_By_add : (q_ms n_By_add).2.2.2.2.1 = (some ClassFile.FieldType.boolean) := (mi_at mi_By_add).2.2.1
theorem vk_By_add : (q_ms n_By_add).1 = 0 ∧ (q_ms n_By_add).2.1 = 1 ∧ (q_ms n_By_add).2.2.2.2.2.1 = 1 := ⟨(mi_at mi_By_add).2.2.2.1, (mi_at mi_By_add).1, (mi_at mi_By_add).2.2.2.2⟩
theorem mi_By_size : q_ms n_By_size = (0, 1, prog_3_method_2_code, 1, (some ClassFile.FieldType.int), 0, ⟨"PatternTrier$Bytes", "size", "()I"⟩) := rfl
theorem own_By_size : (q_ms n_By_size).2.1 = 1 := (mi_at mi_By_size).1
theorem nl_By_size : (q_ms n_By_size).2.2.2.1 = 1 := (mi_at mi_By_size).2.1
theorem rt_By_size : (q_ms n_By_size).2.2.2.2.1 = (some ClassFile.FieldType.int) := (mi_at mi_By_size).2.2.1
theorem vk_By_size : (q_ms n_By_size).1 = 0 ∧ (q_ms n_By_size).2.1 = 1 ∧ (q_ms n_By_size).2.2.2.2.2.1 = 0 := ⟨(mi_at mi_By_size).2.2.2.1, (mi_at mi_By_size).1, (mi_at mi_By_size).2.2.2.2⟩
theorem mi_P_end : q_ms n_P_end = (0, 10, prog_1_method_3_code, 2, (some ClassFile.FieldType.int), 1, ⟨"PatternTrier", "end", "(I)I"⟩) := rfl
theorem own_P_end : (q_ms n_P_end).2.1 = 10 := (mi_at mi_P_end).1
theorem nl_P_end : (q_ms n_P_end).2.2.2.1 = 2 := (mi_at mi_P_end).2.1
theorem rt_P_end : (q_ms n_P_end).2.2.2.2.1 = (some ClassFile.FieldType.int) := (mi_at mi_P_end).2.2.1
theorem vk_P_end : (q_ms n_P_end).1 = 0 ∧ (q_ms n_P_end).2.1 = 10 ∧ (q_ms n_P_end).2.2.2.2.2.1 = 1 := ⟨(mi_at mi_P_end).2.2.2.1, (mi_at mi_P_end).1, (mi_at mi_P_end).2.2.2.2⟩
theorem mi_By_cut : q_ms n_By_cut = (0, 1, prog_3_method_7_code, 2, none, 1, ⟨"PatternTrier$Bytes", "cut", "(I)V"⟩) := rfl
theorem own_By_cut : (q_ms n_By_cut).2.1 = 1 := (mi_at mi_By_cut).1
theorem nl_By_cut : (q_ms n_By_cut).2.2.2.1 = 2 := (mi_at mi_By_cut).2.1
theorem rt_By_cut : (q_ms n_By_cut).2.2.2.2.1 = none := (mi_at mi_By_cut).2.2.1
theorem vk_By_cut : (q_ms n_By_cut).1 = 0 ∧ (q_ms n_By_cut).2.1 = 1 ∧ (q_ms n_By_cut).2.2.2.2.2.1 = 1 := ⟨(mi_at mi_By_cut).2.2.2.1, (mi_at mi_By_cut).1, (mi_at mi_By_cut).2.2.2.2⟩
theorem mi_P_pattern : q_ms n_P_pattern = (0, 10, prog_1_method_4_code, 4, (some ClassFile.FieldType.int), 1, ⟨"PatternTrier", "pattern", "(I)I"⟩) := rfl
theorem own_P_pattern : (q_ms n_P_pattern).2.1 = 10 := (mi_at mi_P_pattern).1
theorem nl_P_pattern : (q_ms n_P_pattern).2.2.2.1 = 4 := (mi_at mi_P_pattern).2.1
theorem rt_P_pattern : (q_ms n_P_pattern).2.2.2.2.1 = (some ClassFile.FieldType.int) := (mi_at mi_P_pattern).2.2.1
theorem vk_P_pattern : (q_ms n_P_pattern).1 = 0 ∧ (q_ms n_P_pattern).2.1 = 10 ∧ (q_ms n_P_pattern).2.2.2.2.2.1 = 1 := ⟨(mi_at mi_P_pattern).2.2.2.1, (mi_at mi_P_pattern).1, (mi_at mi_P_pattern).2.2.2.2⟩
theorem mi_P_takeTape : q_ms n_P_takeTape = (0, 10, prog_1_method_15_code, 2, (some (ClassFile.FieldType.object "PatternTrier$Bytes")), 0, ⟨"PatternTrier", "takeTape", "()LPatternTrier$Bytes;"⟩) := rfl
theorem own_P_takeTape : (q_ms n_P_takeTape).2.1 = 10 := (mi_at mi_P_takeTape).1
theorem nl_P_takeTape : (q_ms n_P_takeTape).2.2.2.1 = 2 := (mi_at mi_P_takeTape).2.1
theorem rt_P_takeTape : (q_ms n_P_takeTape).2.2.2.2.1 = (some (ClassFile.FieldType.object "PatternTrier$Bytes")) := (mi_at mi_P_takeTape).2.2.1
theorem vk_P_takeTape : (q_ms n_P_takeTape).1 = 0 ∧ (q_ms n_P_takeTape).2.1 = 10 ∧ (q_ms n_P_takeTape).2.2.2.2.2.1 = 0 := ⟨(mi_at mi_P_takeTape).2.2.2.1, (mi_at mi_P_takeTape).1, (mi_at mi_P_takeTape).2.2.2.2⟩
theorem mi_P_programAt : q_ms n_P_programAt = (0, 10, prog_1_method_17_code, 2, (some (ClassFile.FieldType.object "PatternTrier$Program")), 1, ⟨"PatternTrier", "programAt", "(I)LPatternTrier$Program;"⟩) := rfl
theorem own_P_programAt : (q_ms n_P_programAt).2.1 = 10 := (mi_at mi_P_programAt).1
theorem nl_P_programAt : (q_ms n_P_programAt).2.2.2.1 = 2 := (mi_at mi_P_programAt).2.1
theorem rt_P_programAt : (q_ms n_P_programAt).2.2.2.2.1 = (some (ClassFile.FieldType.object "PatternTrier$Program")) := (mi_at mi_P_programAt).2.2.1
theorem vk_P_programAt : (q_ms n_P_programAt).1 = 0 ∧ (q_ms n_P_programAt).2.1 = 10 ∧ (q_ms n_P_programAt).2.2.2.2.2.1 = 1 := ⟨(mi_at mi_P_programAt).2.2.2.1, (mi_at mi_P_programAt).1, (mi_at mi_P_programAt).2.2.2.2⟩
theorem mi_Re_read : q_ms n_Re_read = (0, 6, prog_8_method_2_code, 2, (some ClassFile.FieldType.int), 1, ⟨"PatternTrier$Reader", "read", "(LPatternTrier$Bytes;)I"⟩) := rfl
theorem own_Re_read : (q_ms n_Re_read).2.1 = 6 := (mi_at mi_Re_read).1
theorem nl_Re_read : (q_ms n_Re_read).2.2.2.1 = 2 := (mi_at mi_Re_read).2.1
theorem rt_Re_read : (q_ms n_Re_read).2.2.2.2.1 = (some ClassFile.FieldType.int) := (mi_at mi_Re_read).2.2.1
theorem vk_Re_read : (q_ms n_Re_read).1 = 0 ∧ (q_ms n_Re_read).2.1 = 6 ∧ (q_ms n_Re_read).2.2.2.2.2.1 = 1 := ⟨(mi_at mi_Re_read).2.2.2.1, (mi_at mi_Re_read).1, (mi_at mi_Re_read).2.2.2.2⟩
theorem mi_Tr_clear : q_ms n_Tr_clear = (0, 8, prog_10_method_2_code, 1, none, 0, ⟨"PatternTrier$Tree", "clear", "()V"⟩) := rfl
theorem own_Tr_clear : (q_ms n_Tr_clear).2.1 = 8 := (mi_at mi_Tr_clear).1
theorem nl_Tr_clear : (q_ms n_Tr_clear).2.2.2.1 = 1 := (mi_at mi_Tr_clear).2.1
theorem rt_Tr_clear : (q_ms n_Tr_clear).2.2.2.2.1 = none := (mi_at mi_Tr_clear).2.2.1
theorem vk_Tr_clear : (q_ms n_Tr_clear).1 = 0 ∧ (q_ms n_Tr_clear).2.1 = 8 ∧ (q_ms n_Tr_clear).2.2.2.2.2.1 = 0 := ⟨(mi_at mi_Tr_clear).2.2.2.1, (mi_at mi_Tr_clear).1, (mi_at mi_Tr_clear).2.2.2.2⟩
theorem mi_Se_clear : q_ms n_Se_clear = (0, 7, prog_9_method_2_code, 1, none, 0, ⟨"PatternTrier$Sets", "clear", "()V"⟩) := rfl
theorem own_Se_clear : (q_ms n_Se_clear).2.1 = 7 := (mi_at mi_Se_clear).1
theorem nl_Se_clear : (q_ms n_Se_clear).2.2.2.1 = 1 := (mi_at mi_Se_clear).2.1
theorem rt_Se_clear : (q_ms n_Se_clear).2.2.2.2.1 = none := (mi_at mi_Se_clear).2.2.1
theorem vk_Se_clear : (q_ms n_Se_clear).1 = 0 ∧ (q_ms n_Se_clear).2.1 = 7 ∧ (q_ms n_Se_clear).2.2.2.2.2.1 = 0 := ⟨(mi_at mi_Se_clear).2.2.2.1, (mi_at mi_Se_clear).1, (mi_at mi_Se_clear).2.2.2.2⟩
theorem mi_Re_readWays : q_ms n_Re_readWays = (0, 6, prog_8_method_8_code, 6, (some ClassFile.FieldType.int), 1, ⟨"PatternTrier$Reader", "readWays", "(I)I"⟩) := rfl
theorem own_Re_readWays : (q_ms n_Re_readWays).2.1 = 6 := (mi_at mi_Re_readWays).1
theorem nl_Re_readWays : (q_ms n_Re_readWays).2.2.2.1 = 6 := (mi_at mi_Re_readWays).2.1
theorem rt_Re_readWays : (q_ms n_Re_readWays).2.2.2.2.1 = (some ClassFile.FieldType.int) := (mi_at mi_Re_readWays).2.2.1
theorem vk_Re_readWays : (q_ms n_Re_readWays).1 = 0 ∧ (q_ms n_Re_readWays).2.1 = 6 ∧ (q_ms n_Re_readWays).2.2.2.2.2.1 = 1 := ⟨(mi_at mi_Re_readWays).2.2.2.1, (mi_at mi_Re_readWays).1, (mi_at mi_Re_readWays).2.2.2.2⟩
theorem mi_Re_readRow : q_ms n_Re_readRow = (0, 6, prog_8_method_9_code, 6, (some ClassFile.FieldType.int), 1, ⟨"PatternTrier$Reader", "readRow", "(I)I"⟩) := rfl
theorem own_Re_readRow : (q_ms n_Re_readRow).2.1 = 6 := (mi_at mi_Re_readRow).1
theorem nl_Re_readRow : (q_ms n_Re_readRow).2.2.2.1 = 6 := (mi_at mi_Re_readRow).2.1
theorem rt_Re_readRow : (q_ms n_Re_readRow).2.2.2.2.1 = (some ClassFile.FieldType.int) := (mi_at mi_Re_readRow).2.2.1
theorem vk_Re_readRow : (q_ms n_Re_readRow).1 = 0 ∧ (q_ms n_Re_readRow).2.1 = 6 ∧ (q_ms n_Re_readRow).2.2.2.2.2.1 = 1 := ⟨(mi_at mi_Re_readRow).2.2.2.1, (mi_at mi_Re_readRow).1, (mi_at mi_Re_readRow).2.2.2.2⟩
theorem mi_Re_isBroken : q_ms n_Re_isBroken = (0, 6, prog_8_method_6_code, 1, (some ClassFile.FieldType.boolean), 0, ⟨"PatternTrier$Reader", "isBroken", "()Z"⟩) := rfl
theorem own_Re_isBroken : (q_ms n_Re_isBroken).2.1 = 6 := (mi_at mi_Re_isBroken).1
theorem nl_Re_isBroken : (q_ms n_Re_isBroken).2.2.2.1 = 1 := (mi_at mi_Re_isBroken).2.1
theorem rt_Re_isBroken : (q_ms n_Re_isBroken).2.2.2.2.1 = (some ClassFile.FieldType.boolean) := (mi_at mi_Re_isBroken).2.2.1
theorem vk_Re_isBroken : (q_ms n_Re_isBroken).1 = 0 ∧ (q_ms n_Re_isBroken).2.1 = 6 ∧ (q_ms n_Re_isBroken).2.2.2.2.2.1 = 0 := ⟨(mi_at mi_Re_isBroken).2.2.2.1, (mi_at mi_Re_isBroken).1, (mi_at mi_Re_isBroken).2.2.2.2⟩
theorem mi_Re_see : q_ms n_Re_see = (0, 6, prog_8_method_7_code, 4, (some ClassFile.FieldType.int), 1, ⟨"PatternTrier$Reader", "see", "(I)I"⟩) := rfl
theorem own_Re_see : (q_ms n_Re_see).2.1 = 6 := (mi_at mi_Re_see).1
theorem nl_Re_see : (q_ms n_Re_see).2.2.2.1 = 4 := (mi_at mi_Re_see).2.1
theorem rt_Re_see : (q_ms n_Re_see).2.2.2.2.1 = (some ClassFile.FieldType.int) := (mi_at mi_Re_see).2.2.1
theorem vk_Re_see : (q_ms n_Re_see).1 = 0 ∧ (q_ms n_Re_see).2.1 = 6 ∧ (q_ms n_Re_see).2.2.2.2.2.1 = 1 := ⟨(mi_at mi_Re_see).2.2.2.1, (mi_at mi_Re_see).1, (mi_at mi_Re_see).2.2.2.2⟩
theorem mi_By_at : q_ms n_By_at = (0, 1, prog_3_method_4_code, 2, (some ClassFile.FieldType.int), 1, ⟨"PatternTrier$Bytes", "at", "(I)I"⟩) := rfl
theorem own_By_at : (q_ms n_By_at).2.1 = 1 := (mi_at mi_By_at).1
theorem nl_By_at : (q_ms n_By_at).2.2.2.1 = 2 := (mi_at mi_By_at).2.1
theorem rt_By_at : (q_ms n_By_at).2.2.2.2.1 = (some ClassFile.FieldType.int) := (mi_at mi_By_at).2.2.1
theorem vk_By_at : (q_ms n_By_at).1 = 0 ∧ (q_ms n_By_at).2.1 = 1 ∧ (q_ms n_By_at).2.2.2.2.2.1 = 1 := ⟨(mi_at mi_By_at).2.2.2.1, (mi_at mi_By_at).1, (mi_at mi_By_at).2.2.2.2⟩
theorem mi_Re_isRowEnd : q_ms n_Re_isRowEnd = (1, 6, prog_8_method_10_code, 1, (some ClassFile.FieldType.boolean), 1, ⟨"PatternTrier$Reader", "isRowEnd", "(I)Z"⟩) := rfl
theorem own_Re_isRowEnd : (q_ms n_Re_isRowEnd).2.1 = 6 := (mi_at mi_Re_isRowEnd).1
theorem nl_Re_isRowEnd : (q_ms n_Re_isRowEnd).2.2.2.1 = 1 := (mi_at mi_Re_isRowEnd).2.1
theorem rt_Re_isRowEnd : (q_ms n_Re_isRowEnd).2.2.2.2.1 = (some ClassFile.FieldType.boolean) := (mi_at mi_Re_isRowEnd).2.2.1
theorem vk_Re_isRowEnd : (q_ms n_Re_isRowEnd).1 = 1 ∧ (q_ms n_Re_isRowEnd).2.2.2.2.2.1 = 1 := ⟨(mi_at mi_Re_isRowEnd).2.2.2.1, (mi_at mi_Re_isRowEnd).2.2.2.2⟩
theorem mi_Re_readPart : q_ms n_Re_readPart = (0, 6, prog_8_method_11_code, 5, (some ClassFile.FieldType.int), 1, ⟨"PatternTrier$Reader", "readPart", "(I)I"⟩) := rfl
theorem own_Re_readPart : (q_ms n_Re_readPart).2.1 = 6 := (mi_at mi_Re_readPart).1
theorem nl_Re_readPart : (q_ms n_Re_readPart).2.2.2.1 = 5 := (mi_at mi_Re_readPart).2.1
theorem rt_Re_readPart : (q_ms n_Re_readPart).2.2.2.2.1 = (some ClassFile.FieldType.int) := (mi_at mi_Re_readPart).2.2.1
theorem vk_Re_readPart : (q_ms n_Re_readPart).1 = 0 ∧ (q_ms n_Re_readPart).2.1 = 6 ∧ (q_ms n_Re_readPart).2.2.2.2.2.1 = 1 := ⟨(mi_at mi_Re_readPart).2.2.2.1, (mi_at mi_Re_readPart).1, (mi_at mi_Re_readPart).2.2.2.2⟩
theorem mi_Re_readAtom : q_ms n_Re_readAtom = (0, 6, prog_8_method_13_code, 3, (some ClassFile.FieldType.int), 1, ⟨"PatternTrier$Reader", "readAtom", "(I)I"⟩) := rfl
theorem own_Re_readAtom : (q_ms n_Re_readAtom).2.1 = 6 := (mi_at mi_Re_readAtom).1
theorem nl_Re_readAtom : (q_ms n_Re_readAtom).2.2.2.1 = 3 := (mi_at mi_Re_readAtom).2.1
theorem rt_Re_readAtom : (q_ms n_Re_readAtom).2.2.2.2.1 = (some ClassFile.FieldType.int) := (mi_at mi_Re_readAtom).2.2.1
theorem vk_Re_readAtom : (q_ms n_Re_readAtom).1 = 0 ∧ (q_ms n_Re_readAtom).2.1 = 6 ∧ (q_ms n_Re_readAtom).2.2.2.2.2.1 = 1 := ⟨(mi_at mi_Re_readAtom).2.2.2.1, (mi_at mi_Re_readAtom).1, (mi_at mi_Re_readAtom).2.2.2.2⟩
theorem mi_Re_readBracket : q_ms n_Re_readBracket = (0, 6, prog_8_method_20_code, 7, (some ClassFile.FieldType.int), 1, ⟨"PatternTrier$Reader", "readBracket", "(I)I"⟩) := rfl
theorem own_Re_readBracket : (q_ms n_Re_readBracket).2.1 = 6 := (mi_at mi_Re_readBracket).1
theorem nl_Re_readBracket : (q_ms n_Re_readBracket).2.2.2.1 = 7 := (mi_at mi_Re_readBracket).2.1
theorem rt_Re_readBracket : (q_ms n_Re_readBracket).2.2.2.2.1 = (some ClassFile.FieldType.int) := (mi_at mi_Re_readBracket).2.2.1
theorem vk_Re_readBracket : (q_ms n_Re_readBracket).1 = 0 ∧ (q_ms n_Re_readBracket).2.1 = 6 ∧ (q_ms n_Re_readBracket).2.2.2.2.2.1 = 1 := ⟨(mi_at mi_Re_readBracket).2.2.2.1, (mi_at mi_Re_readBracket).1, (mi_at mi_Re_readBracket).2.2.2.2⟩
theorem mi_Re_bracketKind : q_ms n_Re_bracketKind = (0, 6, prog_8_method_21_code, 1, (some ClassFile.FieldType.int), 0, ⟨"PatternTrier$Reader", "bracketKind", "()I"⟩) := rfl
theorem own_Re_bracketKind : (q_ms n_Re_bracketKind).2.1 = 6 := (mi_at mi_Re_bracketKind).1
theorem nl_Re_bracketKind : (q_ms n_Re_bracketKind).2.2.2.1 = 1 := (mi_at mi_Re_bracketKind).2.1
theorem rt_Re_bracketKind : (q_ms n_Re_bracketKind).2.2.2.2.1 = (some ClassFile.FieldType.int) := (mi_at mi_Re_bracketKind).2.2.1
theorem vk_Re_bracketKind : (q_ms n_Re_bracketKind).1 = 0 ∧ (q_ms n_Re_bracketKind).2.1 = 6 ∧ (q_ms n_Re_bracketKind).2.2.2.2.2.1 = 0 := ⟨(mi_at mi_Re_bracketKind).2.2.2.1, (mi_at mi_Re_bracketKind).1, (mi_at mi_Re_bracketKind).2.2.2.2⟩
theorem mi_Re_breakAt : q_ms n_Re_breakAt = (0, 6, prog_8_method_5_code, 2, none, 1, ⟨"PatternTrier$Reader", "breakAt", "(I)V"⟩) := rfl
theorem own_Re_breakAt : (q_ms n_Re_breakAt).2.1 = 6 := (mi_at mi_Re_breakAt).1
theorem nl_Re_breakAt : (q_ms n_Re_breakAt).2.2.2.1 = 2 := (mi_at mi_Re_breakAt).2.1
theorem rt_Re_breakAt : (q_ms n_Re_breakAt).2.2.2.2.1 = none := (mi_at mi_Re_breakAt).2.2.1
theorem vk_Re_breakAt : (q_ms n_Re_breakAt).1 = 0 ∧ (q_ms n_Re_breakAt).2.1 = 6 ∧ (q_ms n_Re_breakAt).2.2.2.2.2.1 = 1 := ⟨(mi_at mi_Re_breakAt).2.2.2.1, (mi_at mi_Re_breakAt).1, (mi_at mi_Re_breakAt).2.2.2.2⟩
theorem mi_Tr_weightOf : q_ms n_Tr_weightOf = (0, 8, prog_10_method_12_code, 2, (some ClassFile.FieldType.int), 1, ⟨"PatternTrier$Tree", "weightOf", "(I)I"⟩) := rfl
theorem own_Tr_weightOf : (q_ms n_Tr_weightOf).2.1 = 8 := (mi_at mi_Tr_weightOf).1
theorem nl_Tr_weightOf : (q_ms n_Tr_weightOf).2.2.2.1 = 2 := (mi_at mi_Tr_weightOf).2.1
theorem rt_Tr_weightOf : (q_ms n_Tr_weightOf).2.2.2.2.1 = (some ClassFile.FieldType.int) := (mi_at mi_Tr_weightOf).2.2.1
theorem vk_Tr_weightOf : (q_ms n_Tr_weightOf).1 = 0 ∧ (q_ms n_Tr_weightOf).2.1 = 8 ∧ (q_ms n_Tr_weightOf).2.2.2.2.2.1 = 1 := ⟨(mi_at mi_Tr_weightOf).2.2.2.1, (mi_at mi_Tr_weightOf).1, (mi_at mi_Tr_weightOf).2.2.2.2⟩
theorem mi_P_cell : q_ms n_P_cell = (3, 10, prog_1_method_28_code, 2, (some ClassFile.FieldType.int), 2, ⟨"PatternTrier", "cell", "([II)I"⟩) := rfl
theorem own_P_cell : (q_ms n_P_cell).2.1 = 10 := (mi_at mi_P_cell).1
theorem nl_P_cell : (q_ms n_P_cell).2.2.2.1 = 2 := (mi_at mi_P_cell).2.1
theorem rt_P_cell : (q_ms n_P_cell).2.2.2.2.1 = (some ClassFile.FieldType.int) := (mi_at mi_P_cell).2.2.1
theorem vk_P_cell : (q_ms n_P_cell).1 = 3 ∧ (q_ms n_P_cell).2.2.2.2.2.1 = 2 := ⟨(mi_at mi_P_cell).2.2.2.1, (mi_at mi_P_cell).2.2.2.2⟩
theorem mi_Tr_add : q_ms n_Tr_add = (0, 8, prog_10_method_3_code, 6, (some ClassFile.FieldType.int), 4, ⟨"PatternTrier$Tree", "add", "(IIII)I"⟩) := rfl
theorem own_Tr_add : (q_ms n_Tr_add).2.1 = 8 := (mi_at mi_Tr_add).1
theorem nl_Tr_add : (q_ms n_Tr_add).2.2.2.1 = 6 := (mi_at mi_Tr_add).2.1
theorem rt_Tr_add : (q_ms n_Tr_add).2.2.2.2.1 = (some ClassFile.FieldType.int) := (mi_at mi_Tr_add).2.2.1
theorem vk_Tr_add : (q_ms n_Tr_add).1 = 0 ∧ (q_ms n_Tr_add).2.1 = 8 ∧ (q_ms n_Tr_add).2.2.2.2.2.1 = 4 := ⟨(mi_at mi_Tr_add).2.2.2.1, (mi_at mi_Tr_add).1, (mi_at mi_Tr_add).2.2.2.2⟩
theorem mi_P_put : q_ms n_P_put = (3, 10, prog_1_method_29_code, 3, none, 3, ⟨"PatternTrier", "put", "([III)V"⟩) := rfl
theorem own_P_put : (q_ms n_P_put).2.1 = 10 := (mi_at mi_P_put).1
theorem nl_P_put : (q_ms n_P_put).2.2.2.1 = 3 := (mi_at mi_P_put).2.1
theorem rt_P_put : (q_ms n_P_put).2.2.2.2.1 = none := (mi_at mi_P_put).2.2.1
theorem vk_P_put : (q_ms n_P_put).1 = 3 ∧ (q_ms n_P_put).2.2.2.2.2.1 = 3 := ⟨(mi_at mi_P_put).2.2.2.1, (mi_at mi_P_put).2.2.2.2⟩
theorem mi_Re_readSet : q_ms n_Re_readSet = (0, 6, prog_8_method_17_code, 4, (some ClassFile.FieldType.int), 0, ⟨"PatternTrier$Reader", "readSet", "()I"⟩) := rfl
theorem own_Re_readSet : (q_ms n_Re_readSet).2.1 = 6 := (mi_at mi_Re_readSet).1
theorem nl_Re_readSet : (q_ms n_Re_readSet).2.2.2.1 = 4 := (mi_at mi_Re_readSet).2.1
theorem rt_Re_readSet : (q_ms n_Re_readSet).2.2.2.2.1 = (some ClassFile.FieldType.int) := (mi_at mi_Re_readSet).2.2.1
theorem vk_Re_readSet : (q_ms n_Re_readSet).1 = 0 ∧ (q_ms n_Re_readSet).2.1 = 6 ∧ (q_ms n_Re_readSet).2.2.2.2.2.1 = 0 := ⟨(mi_at mi_Re_readSet).2.2.2.1, (mi_at mi_Re_readSet).1, (mi_at mi_Re_readSet).2.2.2.2⟩
theorem mi_Tr_sets : q_ms n_Tr_sets = (0, 8, prog_10_method_13_code, 1, (some (ClassFile.FieldType.object "PatternTrier$Sets")), 0, ⟨"PatternTrier$Tree", "sets", "()LPatternTrier$Sets;"⟩) := rfl
theorem own_Tr_sets : (q_ms n_Tr_sets).2.1 = 8 := (mi_at mi_Tr_sets).1
theorem nl_Tr_sets : (q_ms n_Tr_sets).2.2.2.1 = 1 := (mi_at mi_Tr_sets).2.1
theorem rt_Tr_sets : (q_ms n_Tr_sets).2.2.2.2.1 = (some (ClassFile.FieldType.object "PatternTrier$Sets")) := (mi_at mi_Tr_sets).2.2.1
theorem vk_Tr_sets : (q_ms n_Tr_sets).1 = 0 ∧ (q_ms n_Tr_sets).2.1 = 8 ∧ (q_ms n_Tr_sets).2.2.2.2.2.1 = 0 := ⟨(mi_at mi_Tr_sets).2.2.2.1, (mi_at mi_Tr_sets).1, (mi_at mi_Tr_sets).2.2.2.2⟩
theorem mi_Se_open : q_ms n_Se_open = (0, 7, prog_9_method_3_code, 3, (some ClassFile.FieldType.int), 0, ⟨"PatternTrier$Sets", "open", "()I"⟩) := rfl
theorem own_Se_open : (q_ms n_Se_open).2.1 = 7 := (mi_at mi_Se_open).1
theorem nl_Se_open : (q_ms n_Se_open).2.2.2.1 = 3 := (mi_at mi_Se_open).2.1
theorem rt_Se_open : (q_ms n_Se_open).2.2.2.2.1 = (some ClassFile.FieldType.int) := (mi_at mi_Se_open).2.2.1
theorem vk_Se_open : (q_ms n_Se_open).1 = 0 ∧ (q_ms n_Se_open).2.1 = 7 ∧ (q_ms n_Se_open).2.2.2.2.2.1 = 0 := ⟨(mi_at mi_Se_open).2.2.2.1, (mi_at mi_Se_open).1, (mi_at mi_Se_open).2.2.2.2⟩
theorem mi_Re_readMember : q_ms n_Re_readMember = (0, 6, prog_8_method_18_code, 3, none, 1, ⟨"PatternTrier$Reader", "readMember", "(I)V"⟩) := rfl
theorem own_Re_readMember : (q_ms n_Re_readMember).2.1 = 6 := (mi_at mi_Re_readMember).1
theorem nl_Re_readMember : (q_ms n_Re_readMember).2.2.2.1 = 3 := (mi_at mi_Re_readMember).2.1
theorem rt_Re_readMember : (q_ms n_Re_readMember).2.2.2.2.1 = none := (mi_at mi_Re_readMember).2.2.1
theorem vk_Re_readMember : (q_ms n_Re_readMember).1 = 0 ∧ (q_ms n_Re_readMember).2.1 = 6 ∧ (q_ms n_Re_readMember).2.2.2.2.2.1 = 1 := ⟨(mi_at mi_Re_readMember).2.2.2.1, (mi_at mi_Re_readMember).1, (mi_at mi_Re_readMember).2.2.2.2⟩
theorem mi_Re_readEscapedMember : q_ms n_Re_readEscapedMember = (0, 6, prog_8_method_19_code, 4, none, 2, ⟨"PatternTrier$Reader", "readEscapedMember", "(II)V"⟩) := rfl
theorem own_Re_readEscapedMember : (q_ms n_Re_readEscapedMember).2.1 = 6 := (mi_at mi_Re_readEscapedMember).1
theorem nl_Re_readEscapedMember : (q_ms n_Re_readEscapedMember).2.2.2.1 = 4 := (mi_at mi_Re_readEscapedMember).2.1
theorem rt_Re_readEscapedMember : (q_ms n_Re_readEscapedMember).2.2.2.2.1 = none := (mi_at mi_Re_readEscapedMember).2.2.1
theorem vk_Re_readEscapedMember : (q_ms n_Re_readEscapedMember).1 = 0 ∧ (q_ms n_Re_readEscapedMember).2.1 = 6 ∧ (q_ms n_Re_readEscapedMember).2.2.2.2.2.1 = 2 := ⟨(mi_at mi_Re_readEscapedMember).2.2.2.1, (mi_at mi_Re_readEscapedMember).1, (mi_at mi_Re_readEscapedMember).2.2.2.2⟩
theorem mi_Re_classOf : q_ms n_Re_classOf = (1, 6, prog_8_method_16_code, 1, (some ClassFile.FieldType.int), 1, ⟨"PatternTrier$Reader", "classOf", "(I)I"⟩) := rfl
theorem own_Re_classOf : (q_ms n_Re_classOf).2.1 = 6 := (mi_at mi_Re_classOf).1
theorem nl_Re_classOf : (q_ms n_Re_classOf).2.2.2.1 = 1 := (mi_at mi_Re_classOf).2.1
theorem rt_Re_classOf : (q_ms n_Re_classOf).2.2.2.2.1 = (some ClassFile.FieldType.int) := (mi_at mi_Re_classOf).2.2.1
theorem vk_Re_classOf : (q_ms n_Re_classOf).1 = 1 ∧ (q_ms n_Re_classOf).2.2.2.2.2.1 = 1 := ⟨(mi_at mi_Re_classOf).2.2.2.1, (mi_at mi_Re_classOf).2.2.2.2⟩
theorem mi_Se_addClass : q_ms n_Se_addClass = (0, 7, prog_9_method_5_code, 7, none, 3, ⟨"PatternTrier$Sets", "addClass", "(IIZ)V"⟩) := rfl
theorem own_Se_addClass : (q_ms n_Se_addClass).2.1 = 7 := (mi_at mi_Se_addClass).1
theorem nl_Se_addClass : (q_ms n_Se_addClass).2.2.2.1 = 7 := (mi_at mi_Se_addClass).2.1
theorem rt_Se_addClass : (q_ms n_Se_addClass).2.2.2.2.1 = none := (mi_at mi_Se_addClass).2.2.1
theorem vk_Se_addClass : (q_ms n_Se_addClass).1 = 0 ∧ (q_ms n_Se_addClass).2.1 = 7 ∧ (q_ms n_Se_addClass).2.2.2.2.2.1 = 3 := ⟨(mi_at mi_Se_addClass).2.2.2.1, (mi_at mi_Se_addClass).1, (mi_at mi_Se_addClass).2.2.2.2⟩
theorem mi_P_isLetter : q_ms n_P_isLetter = (3, 10, prog_1_method_27_code, 1, (some ClassFile.FieldType.boolean), 1, ⟨"PatternTrier", "isLetter", "(I)Z"⟩) := rfl
theorem own_P_isLetter : (q_ms n_P_isLetter).2.1 = 10 := (mi_at mi_P_isLetter).1
theorem nl_P_isLetter : (q_ms n_P_isLetter).2.2.2.1 = 1 := (mi_at mi_P_isLetter).2.1
theorem rt_P_isLetter : (q_ms n_P_isLetter).2.2.2.2.1 = (some ClassFile.FieldType.boolean) := (mi_at mi_P_isLetter).2.2.1
theorem vk_P_isLetter : (q_ms n_P_isLetter).1 = 3 ∧ (q_ms n_P_isLetter).2.2.2.2.2.1 = 1 := ⟨(mi_at mi_P_isLetter).2.2.2.1, (mi_at mi_P_isLetter).2.2.2.2⟩
theorem mi_P_isDigit_IZ : q_ms n_P_isDigit_IZ = (3, 10, prog_1_method_26_code, 1, (some ClassFile.FieldType.boolean), 1, ⟨"PatternTrier", "isDigit", "(I)Z"⟩) := rfl
theorem own_P_isDigit_IZ : (q_ms n_P_isDigit_IZ).2.1 = 10 := (mi_at mi_P_isDigit_IZ).1
theorem nl_P_isDigit_IZ : (q_ms n_P_isDigit_IZ).2.2.2.1 = 1 := (mi_at mi_P_isDigit_IZ).2.1
theorem rt_P_isDigit_IZ : (q_ms n_P_isDigit_IZ).2.2.2.2.1 = (some ClassFile.FieldType.boolean) := (mi_at mi_P_isDigit_IZ).2.2.1
theorem vk_P_isDigit_IZ : (q_ms n_P_isDigit_IZ).1 = 3 ∧ (q_ms n_P_isDigit_IZ).2.2.2.2.2.1 = 1 := ⟨(mi_at mi_P_isDigit_IZ).2.2.2.1, (mi_at mi_P_isDigit_IZ).2.2.2.2⟩
theorem mi_Se_addRange : q_ms n_Se_addRange = (0, 7, prog_9_method_4_code, 6, none, 3, ⟨"PatternTrier$Sets", "addRange", "(III)V"⟩) := rfl
theorem own_Se_addRange : (q_ms n_Se_addRange).2.1 = 7 := (mi_at mi_Se_addRange).1
theorem nl_Se_addRange : (q_ms n_Se_addRange).2.2.2.1 = 6 := (mi_at mi_Se_addRange).2.1
theorem rt_Se_addRange : (q_ms n_Se_addRange).2.2.2.2.1 = none := (mi_at mi_Se_addRange).2.2.1
theorem vk_Se_addRange : (q_ms n_Se_addRange).1 = 0 ∧ (q_ms n_Se_addRange).2.1 = 7 ∧ (q_ms n_Se_addRange).2.2.2.2.2.1 = 3 := ⟨(mi_at mi_Se_addRange).2.2.2.1, (mi_at mi_Se_addRange).1, (mi_at mi_Se_addRange).2.2.2.2⟩
theorem mi_Se_turnRound : q_ms n_Se_turnRound = (0, 7, prog_9_method_6_code, 4, none, 1, ⟨"PatternTrier$Sets", "turnRound", "(I)V"⟩) := rfl
theorem own_Se_turnRound : (q_ms n_Se_turnRound).2.1 = 7 := (mi_at mi_Se_turnRound).1
theorem nl_Se_turnRound : (q_ms n_Se_turnRound).2.2.2.1 = 4 := (mi_at mi_Se_turnRound).2.1
theorem rt_Se_turnRound : (q_ms n_Se_turnRound).2.2.2.2.1 = none := (mi_at mi_Se_turnRound).2.2.1
theorem vk_Se_turnRound : (q_ms n_Se_turnRound).1 = 0 ∧ (q_ms n_Se_turnRound).2.1 = 7 ∧ (q_ms n_Se_turnRound).2.2.2.2.2.1 = 1 := ⟨(mi_at mi_Se_turnRound).2.2.2.1, (mi_at mi_Se_turnRound).1, (mi_at mi_Se_turnRound).2.2.2.2⟩
theorem mi_Re_readEscape : q_ms n_Re_readEscape = (0, 6, prog_8_method_14_code, 3, (some ClassFile.FieldType.int), 0, ⟨"PatternTrier$Reader", "readEscape", "()I"⟩) := rfl
theorem own_Re_readEscape : (q_ms n_Re_readEscape).2.1 = 6 := (mi_at mi_Re_readEscape).1
theorem nl_Re_readEscape : (q_ms n_Re_readEscape).2.2.2.1 = 3 := (mi_at mi_Re_readEscape).2.1
theorem rt_Re_readEscape : (q_ms n_Re_readEscape).2.2.2.2.1 = (some ClassFile.FieldType.int) := (mi_at mi_Re_readEscape).2.2.1
theorem vk_Re_readEscape : (q_ms n_Re_readEscape).1 = 0 ∧ (q_ms n_Re_readEscape).2.1 = 6 ∧ (q_ms n_Re_readEscape).2.2.2.2.2.1 = 0 := ⟨(mi_at mi_Re_readEscape).2.2.2.1, (mi_at mi_Re_readEscape).1, (mi_at mi_Re_readEscape).2.2.2.2⟩
theorem mi_Re_addClass : q_ms n_Re_addClass = (0, 6, prog_8_method_15_code, 4, (some ClassFile.FieldType.int), 2, ⟨"PatternTrier$Reader", "addClass", "(IZ)I"⟩) := rfl
theorem own_Re_addClass : (q_ms n_Re_addClass).2.1 = 6 := (mi_at mi_Re_addClass).1
theorem nl_Re_addClass : (q_ms n_Re_addClass).2.2.2.1 = 4 := (mi_at mi_Re_addClass).2.1
theorem rt_Re_addClass : (q_ms n_Re_addClass).2.2.2.2.1 = (some ClassFile.FieldType.int) := (mi_at mi_Re_addClass).2.2.1
theorem vk_Re_addClass : (q_ms n_Re_addClass).1 = 0 ∧ (q_ms n_Re_addClass).2.1 = 6 ∧ (q_ms n_Re_addClass).2.2.2.2.2.1 = 2 := ⟨(mi_at mi_Re_addClass).2.2.2.1, (mi_at mi_Re_addClass).1, (mi_at mi_Re_addClass).2.2.2.2⟩
theorem mi_Re_isQuantifier : q_ms n_Re_isQuantifier = (1, 6, prog_8_method_12_code, 1, (some ClassFile.FieldType.boolean), 1, ⟨"PatternTrier$Reader", "isQuantifier", "(I)Z"⟩) := rfl
theorem own_Re_isQuantifier : (q_ms n_Re_isQuantifier).2.1 = 6 := (mi_at mi_Re_isQuantifier).1
theorem nl_Re_isQuantifier : (q_ms n_Re_isQuantifier).2.2.2.1 = 1 := (mi_at mi_Re_isQuantifier).2.1
theorem rt_Re_isQuantifier : (q_ms n_Re_isQuantifier).2.2.2.2.1 = (some ClassFile.FieldType.boolean) := (mi_at mi_Re_isQuantifier).2.2.1
theorem vk_Re_isQuantifier : (q_ms n_Re_isQuantifier).1 = 1 ∧ (q_ms n_Re_isQuantifier).2.2.2.2.2.1 = 1 := ⟨(mi_at mi_Re_isQuantifier).2.2.2.1, (mi_at mi_Re_isQuantifier).2.2.2.2⟩
theorem mi_Tr_kindOf : q_ms n_Tr_kindOf = (0, 8, prog_10_method_6_code, 2, (some ClassFile.FieldType.int), 1, ⟨"PatternTrier$Tree", "kindOf", "(I)I"⟩) := rfl
theorem own_Tr_kindOf : (q_ms n_Tr_kindOf).2.1 = 8 := (mi_at mi_Tr_kindOf).1
theorem nl_Tr_kindOf : (q_ms n_Tr_kindOf).2.2.2.1 = 2 := (mi_at mi_Tr_kindOf).2.1
theorem rt_Tr_kindOf : (q_ms n_Tr_kindOf).2.2.2.2.1 = (some ClassFile.FieldType.int) := (mi_at mi_Tr_kindOf).2.2.1
theorem vk_Tr_kindOf : (q_ms n_Tr_kindOf).1 = 0 ∧ (q_ms n_Tr_kindOf).2.1 = 8 ∧ (q_ms n_Tr_kindOf).2.2.2.2.2.1 = 1 := ⟨(mi_at mi_Tr_kindOf).2.2.2.1, (mi_at mi_Tr_kindOf).1, (mi_at mi_Tr_kindOf).2.2.2.2⟩
theorem mi_Re_readRounds : q_ms n_Re_readRounds = (0, 6, prog_8_method_22_code, 7, (some ClassFile.FieldType.int), 2, ⟨"PatternTrier$Reader", "readRounds", "(IZ)I"⟩) := rfl
theorem own_Re_readRounds : (q_ms n_Re_readRounds).2.1 = 6 := (mi_at mi_Re_readRounds).1
theorem nl_Re_readRounds : (q_ms n_Re_readRounds).2.2.2.1 = 7 := (mi_at mi_Re_readRounds).2.1
theorem rt_Re_readRounds : (q_ms n_Re_readRounds).2.2.2.2.1 = (some ClassFile.FieldType.int) := (mi_at mi_Re_readRounds).2.2.1
theorem vk_Re_readRounds : (q_ms n_Re_readRounds).1 = 0 ∧ (q_ms n_Re_readRounds).2.1 = 6 ∧ (q_ms n_Re_readRounds).2.2.2.2.2.1 = 2 := ⟨(mi_at mi_Re_readRounds).2.2.2.1, (mi_at mi_Re_readRounds).1, (mi_at mi_Re_readRounds).2.2.2.2⟩
theorem mi_Re_readNumber : q_ms n_Re_readNumber = (0, 6, prog_8_method_24_code, 5, (some ClassFile.FieldType.int), 1, ⟨"PatternTrier$Reader", "readNumber", "(I)I"⟩) := rfl
theorem own_Re_readNumber : (q_ms n_Re_readNumber).2.1 = 6 := (mi_at mi_Re_readNumber).1
theorem nl_Re_readNumber : (q_ms n_Re_readNumber).2.2.2.1 = 5 := (mi_at mi_Re_readNumber).2.1
theorem rt_Re_readNumber : (q_ms n_Re_readNumber).2.2.2.2.1 = (some ClassFile.FieldType.int) := (mi_at mi_Re_readNumber).2.2.1
theorem vk_Re_readNumber : (q_ms n_Re_readNumber).1 = 0 ∧ (q_ms n_Re_readNumber).2.1 = 6 ∧ (q_ms n_Re_readNumber).2.2.2.2.2.1 = 1 := ⟨(mi_at mi_Re_readNumber).2.2.2.1, (mi_at mi_Re_readNumber).1, (mi_at mi_Re_readNumber).2.2.2.2⟩
theorem mi_Re_readMost : q_ms n_Re_readMost = (0, 6, prog_8_method_23_code, 3, (some ClassFile.FieldType.int), 1, ⟨"PatternTrier$Reader", "readMost", "(I)I"⟩) := rfl
theorem own_Re_readMost : (q_ms n_Re_readMost).2.1 = 6 := (mi_at mi_Re_readMost).1
theorem nl_Re_readMost : (q_ms n_Re_readMost).2.2.2.1 = 3 := (mi_at mi_Re_readMost).2.1
theorem rt_Re_readMost : (q_ms n_Re_readMost).2.2.2.2.1 = (some ClassFile.FieldType.int) := (mi_at mi_Re_readMost).2.2.1
theorem vk_Re_readMost : (q_ms n_Re_readMost).1 = 0 ∧ (q_ms n_Re_readMost).2.1 = 6 ∧ (q_ms n_Re_readMost).2.2.2.2.2.1 = 1 := ⟨(mi_at mi_Re_readMost).2.2.2.1, (mi_at mi_Re_readMost).1, (mi_at mi_Re_readMost).2.2.2.2⟩
theorem mi_Tr_addRounds : q_ms n_Tr_addRounds = (0, 8, prog_10_method_4_code, 8, (some ClassFile.FieldType.int), 4, ⟨"PatternTrier$Tree", "addRounds", "(IIII)I"⟩) := rfl
theorem own_Tr_addRounds : (q_ms n_Tr_addRounds).2.1 = 8 := (mi_at mi_Tr_addRounds).1
theorem nl_Tr_addRounds : (q_ms n_Tr_addRounds).2.2.2.1 = 8 := (mi_at mi_Tr_addRounds).2.1
theorem rt_Tr_addRounds : (q_ms n_Tr_addRounds).2.2.2.2.1 = (some ClassFile.FieldType.int) := (mi_at mi_Tr_addRounds).2.2.1
theorem vk_Tr_addRounds : (q_ms n_Tr_addRounds).1 = 0 ∧ (q_ms n_Tr_addRounds).2.1 = 8 ∧ (q_ms n_Tr_addRounds).2.2.2.2.2.1 = 4 := ⟨(mi_at mi_Tr_addRounds).2.2.2.1, (mi_at mi_Tr_addRounds).1, (mi_at mi_Tr_addRounds).2.2.2.2⟩
theorem mi_Tr_chain : q_ms n_Tr_chain = (0, 8, prog_10_method_5_code, 3, none, 2, ⟨"PatternTrier$Tree", "chain", "(II)V"⟩) := rfl
theorem own_Tr_chain : (q_ms n_Tr_chain).2.1 = 8 := (mi_at mi_Tr_chain).1
theorem nl_Tr_chain : (q_ms n_Tr_chain).2.2.2.1 = 3 := (mi_at mi_Tr_chain).2.1
theorem rt_Tr_chain : (q_ms n_Tr_chain).2.2.2.2.1 = none := (mi_at mi_Tr_chain).2.2.1
theorem vk_Tr_chain : (q_ms n_Tr_chain).1 = 0 ∧ (q_ms n_Tr_chain).2.1 = 8 ∧ (q_ms n_Tr_chain).2.2.2.2.2.1 = 2 := ⟨(mi_at mi_Tr_chain).2.2.2.1, (mi_at mi_Tr_chain).1, (mi_at mi_Tr_chain).2.2.2.2⟩
theorem mi_Re_root : q_ms n_Re_root = (0, 6, prog_8_method_3_code, 1, (some ClassFile.FieldType.int), 0, ⟨"PatternTrier$Reader", "root", "()I"⟩) := rfl
theorem own_Re_root : (q_ms n_Re_root).2.1 = 6 := (mi_at mi_Re_root).1
theorem nl_Re_root : (q_ms n_Re_root).2.2.2.1 = 1 := (mi_at mi_Re_root).2.1
theorem rt_Re_root : (q_ms n_Re_root).2.2.2.2.1 = (some ClassFile.FieldType.int) := (mi_at mi_Re_root).2.2.1
theorem vk_Re_root : (q_ms n_Re_root).1 = 0 ∧ (q_ms n_Re_root).2.1 = 6 ∧ (q_ms n_Re_root).2.2.2.2.2.1 = 0 := ⟨(mi_at mi_Re_root).2.2.2.1, (mi_at mi_Re_root).1, (mi_at mi_Re_root).2.2.2.2⟩
theorem mi_Re_groups : q_ms n_Re_groups = (0, 6, prog_8_method_4_code, 1, (some ClassFile.FieldType.int), 0, ⟨"PatternTrier$Reader", "groups", "()I"⟩) := rfl
theorem own_Re_groups : (q_ms n_Re_groups).2.1 = 6 := (mi_at mi_Re_groups).1
theorem nl_Re_groups : (q_ms n_Re_groups).2.2.2.1 = 1 := (mi_at mi_Re_groups).2.1
theorem rt_Re_groups : (q_ms n_Re_groups).2.2.2.2.1 = (some ClassFile.FieldType.int) := (mi_at mi_Re_groups).2.2.1
theorem vk_Re_groups : (q_ms n_Re_groups).1 = 0 ∧ (q_ms n_Re_groups).2.1 = 6 ∧ (q_ms n_Re_groups).2.2.2.2.2.1 = 0 := ⟨(mi_at mi_Re_groups).2.2.2.1, (mi_at mi_Re_groups).1, (mi_at mi_Re_groups).2.2.2.2⟩
theorem mi_Bu_build : q_ms n_Bu_build = (0, 0, prog_2_method_2_code, 5, none, 3, ⟨"PatternTrier$Builder", "build", "(LPatternTrier$Program;II)V"⟩) := rfl
theorem own_Bu_build : (q_ms n_Bu_build).2.1 = 0 := (mi_at mi_Bu_build).1
theorem nl_Bu_build : (q_ms n_Bu_build).2.2.2.1 = 5 := (mi_at mi_Bu_build).2.1
theorem rt_Bu_build : (q_ms n_Bu_build).2.2.2.2.1 = none := (mi_at mi_Bu_build).2.2.1
theorem vk_Bu_build : (q_ms n_Bu_build).1 = 0 ∧ (q_ms n_Bu_build).2.1 = 0 ∧ (q_ms n_Bu_build).2.2.2.2.2.1 = 3 := ⟨(mi_at mi_Bu_build).2.2.2.1, (mi_at mi_Bu_build).1, (mi_at mi_Bu_build).2.2.2.2⟩
theorem mi_Pr_clear : q_ms n_Pr_clear = (0, 5, prog_7_method_2_code, 1, none, 0, ⟨"PatternTrier$Program", "clear", "()V"⟩) := rfl
theorem own_Pr_clear : (q_ms n_Pr_clear).2.1 = 5 := (mi_at mi_Pr_clear).1
theorem nl_Pr_clear : (q_ms n_Pr_clear).2.2.2.1 = 1 := (mi_at mi_Pr_clear).2.1
theorem rt_Pr_clear : (q_ms n_Pr_clear).2.2.2.2.1 = none := (mi_at mi_Pr_clear).2.2.1
theorem vk_Pr_clear : (q_ms n_Pr_clear).1 = 0 ∧ (q_ms n_Pr_clear).2.1 = 5 ∧ (q_ms n_Pr_clear).2.2.2.2.2.1 = 0 := ⟨(mi_at mi_Pr_clear).2.2.2.1, (mi_at mi_Pr_clear).1, (mi_at mi_Pr_clear).2.2.2.2⟩
theorem mi_Pr_add : q_ms n_Pr_add = (0, 5, prog_7_method_3_code, 6, (some ClassFile.FieldType.int), 4, ⟨"PatternTrier$Program", "add", "(IIII)I"⟩) := rfl
theorem own_Pr_add : (q_ms n_Pr_add).2.1 = 5 := (mi_at mi_Pr_add).1
theorem nl_Pr_add : (q_ms n_Pr_add).2.2.2.1 = 6 := (mi_at mi_Pr_add).2.1
theorem rt_Pr_add : (q_ms n_Pr_add).2.2.2.2.1 = (some ClassFile.FieldType.int) := (mi_at mi_Pr_add).2.2.1
theorem vk_Pr_add : (q_ms n_Pr_add).1 = 0 ∧ (q_ms n_Pr_add).2.1 = 5 ∧ (q_ms n_Pr_add).2.2.2.2.2.1 = 4 := ⟨(mi_at mi_Pr_add).2.2.2.1, (mi_at mi_Pr_add).1, (mi_at mi_Pr_add).2.2.2.2⟩
theorem mi_Bu_buildWays : q_ms n_Bu_buildWays = (0, 0, prog_2_method_3_code, 9, (some ClassFile.FieldType.int), 4, ⟨"PatternTrier$Builder", "buildWays", "(IIII)I"⟩) := rfl
theorem own_Bu_buildWays : (q_ms n_Bu_buildWays).2.1 = 0 := (mi_at mi_Bu_buildWays).1
theorem nl_Bu_buildWays : (q_ms n_Bu_buildWays).2.2.2.1 = 9 := (mi_at mi_Bu_buildWays).2.1
theorem rt_Bu_buildWays : (q_ms n_Bu_buildWays).2.2.2.2.1 = (some ClassFile.FieldType.int) := (mi_at mi_Bu_buildWays).2.2.1
theorem vk_Bu_buildWays : (q_ms n_Bu_buildWays).1 = 0 ∧ (q_ms n_Bu_buildWays).2.1 = 0 ∧ (q_ms n_Bu_buildWays).2.2.2.2.2.1 = 4 := ⟨(mi_at mi_Bu_buildWays).2.2.2.1, (mi_at mi_Bu_buildWays).1, (mi_at mi_Bu_buildWays).2.2.2.2⟩
theorem mi_Tr_innerOf : q_ms n_Tr_innerOf = (0, 8, prog_10_method_8_code, 2, (some ClassFile.FieldType.int), 1, ⟨"PatternTrier$Tree", "innerOf", "(I)I"⟩) := rfl
theorem own_Tr_innerOf : (q_ms n_Tr_innerOf).2.1 = 8 := (mi_at mi_Tr_innerOf).1
theorem nl_Tr_innerOf : (q_ms n_Tr_innerOf).2.2.2.1 = 2 := (mi_at mi_Tr_innerOf).2.1
theorem rt_Tr_innerOf : (q_ms n_Tr_innerOf).2.2.2.2.1 = (some ClassFile.FieldType.int) := (mi_at mi_Tr_innerOf).2.2.1
theorem vk_Tr_innerOf : (q_ms n_Tr_innerOf).1 = 0 ∧ (q_ms n_Tr_innerOf).2.1 = 8 ∧ (q_ms n_Tr_innerOf).2.2.2.2.2.1 = 1 := ⟨(mi_at mi_Tr_innerOf).2.2.2.1, (mi_at mi_Tr_innerOf).1, (mi_at mi_Tr_innerOf).2.2.2.2⟩
theorem mi_Bu_buildRow : q_ms n_Bu_buildRow = (0, 0, prog_2_method_4_code, 8, (some ClassFile.FieldType.int), 4, ⟨"PatternTrier$Builder", "buildRow", "(IIII)I"⟩) := rfl
theorem own_Bu_buildRow : (q_ms n_Bu_buildRow).2.1 = 0 := (mi_at mi_Bu_buildRow).1
theorem nl_Bu_buildRow : (q_ms n_Bu_buildRow).2.2.2.1 = 8 := (mi_at mi_Bu_buildRow).2.1
theorem rt_Bu_buildRow : (q_ms n_Bu_buildRow).2.2.2.2.1 = (some ClassFile.FieldType.int) := (mi_at mi_Bu_buildRow).2.2.1
theorem vk_Bu_buildRow : (q_ms n_Bu_buildRow).1 = 0 ∧ (q_ms n_Bu_buildRow).2.1 = 0 ∧ (q_ms n_Bu_buildRow).2.2.2.2.2.1 = 4 := ⟨(mi_at mi_Bu_buildRow).2.2.2.1, (mi_at mi_Bu_buildRow).1, (mi_at mi_Bu_buildRow).2.2.2.2⟩
theorem mi_Bu_buildPart : q_ms n_Bu_buildPart = (0, 0, prog_2_method_5_code, 6, (some ClassFile.FieldType.int), 4, ⟨"PatternTrier$Builder", "buildPart", "(IIII)I"⟩) := rfl
theorem own_Bu_buildPart : (q_ms n_Bu_buildPart).2.1 = 0 := (mi_at mi_Bu_buildPart).1
theorem nl_Bu_buildPart : (q_ms n_Bu_buildPart).2.2.2.1 = 6 := (mi_at mi_Bu_buildPart).2.1
theorem rt_Bu_buildPart : (q_ms n_Bu_buildPart).2.2.2.2.1 = (some ClassFile.FieldType.int) := (mi_at mi_Bu_buildPart).2.2.1
theorem vk_Bu_buildPart : (q_ms n_Bu_buildPart).1 = 0 ∧ (q_ms n_Bu_buildPart).2.1 = 0 ∧ (q_ms n_Bu_buildPart).2.2.2.2.2.1 = 4 := ⟨(mi_at mi_Bu_buildPart).2.2.2.1, (mi_at mi_Bu_buildPart).1, (mi_at mi_Bu_buildPart).2.2.2.2⟩
theorem mi_Bu_buildRounds : q_ms n_Bu_buildRounds = (0, 0, prog_2_method_8_code, 7, (some ClassFile.FieldType.int), 4, ⟨"PatternTrier$Builder", "buildRounds", "(IIII)I"⟩) := rfl
theorem own_Bu_buildRounds : (q_ms n_Bu_buildRounds).2.1 = 0 := (mi_at mi_Bu_buildRounds).1
theorem nl_Bu_buildRounds : (q_ms n_Bu_buildRounds).2.2.2.1 = 7 := (mi_at mi_Bu_buildRounds).2.1
theorem rt_Bu_buildRounds : (q_ms n_Bu_buildRounds).2.2.2.2.1 = (some ClassFile.FieldType.int) := (mi_at mi_Bu_buildRounds).2.2.1
theorem vk_Bu_buildRounds : (q_ms n_Bu_buildRounds).1 = 0 ∧ (q_ms n_Bu_buildRounds).2.1 = 0 ∧ (q_ms n_Bu_buildRounds).2.2.2.2.2.1 = 4 := ⟨(mi_at mi_Bu_buildRounds).2.2.2.1, (mi_at mi_Bu_buildRounds).1, (mi_at mi_Bu_buildRounds).2.2.2.2⟩
theorem mi_Tr_valueOf : q_ms n_Tr_valueOf = (0, 8, prog_10_method_7_code, 2, (some ClassFile.FieldType.int), 1, ⟨"PatternTrier$Tree", "valueOf", "(I)I"⟩) := rfl
theorem own_Tr_valueOf : (q_ms n_Tr_valueOf).2.1 = 8 := (mi_at mi_Tr_valueOf).1
theorem nl_Tr_valueOf : (q_ms n_Tr_valueOf).2.2.2.1 = 2 := (mi_at mi_Tr_valueOf).2.1
theorem rt_Tr_valueOf : (q_ms n_Tr_valueOf).2.2.2.2.1 = (some ClassFile.FieldType.int) := (mi_at mi_Tr_valueOf).2.2.1
theorem vk_Tr_valueOf : (q_ms n_Tr_valueOf).1 = 0 ∧ (q_ms n_Tr_valueOf).2.1 = 8 ∧ (q_ms n_Tr_valueOf).2.2.2.2.2.1 = 1 := ⟨(mi_at mi_Tr_valueOf).2.2.2.1, (mi_at mi_Tr_valueOf).1, (mi_at mi_Tr_valueOf).2.2.2.2⟩
theorem mi_Bu_buildMore : q_ms n_Bu_buildMore = (0, 0, prog_2_method_10_code, 10, (some ClassFile.FieldType.int), 4, ⟨"PatternTrier$Builder", "buildMore", "(IIII)I"⟩) := rfl
theorem own_Bu_buildMore : (q_ms n_Bu_buildMore).2.1 = 0 := (mi_at mi_Bu_buildMore).1
theorem nl_Bu_buildMore : (q_ms n_Bu_buildMore).2.2.2.1 = 10 := (mi_at mi_Bu_buildMore).2.1
theorem rt_Bu_buildMore : (q_ms n_Bu_buildMore).2.2.2.2.1 = (some ClassFile.FieldType.int) := (mi_at mi_Bu_buildMore).2.2.1
theorem vk_Bu_buildMore : (q_ms n_Bu_buildMore).1 = 0 ∧ (q_ms n_Bu_buildMore).2.1 = 0 ∧ (q_ms n_Bu_buildMore).2.2.2.2.2.1 = 4 := ⟨(mi_at mi_Bu_buildMore).2.2.2.1, (mi_at mi_Bu_buildMore).1, (mi_at mi_Bu_buildMore).2.2.2.2⟩
theorem mi_Tr_mostOf : q_ms n_Tr_mostOf = (0, 8, prog_10_method_11_code, 2, (some ClassFile.FieldType.int), 1, ⟨"PatternTrier$Tree", "mostOf", "(I)I"⟩) := rfl
theorem own_Tr_mostOf : (q_ms n_Tr_mostOf).2.1 = 8 := (mi_at mi_Tr_mostOf).1
theorem nl_Tr_mostOf : (q_ms n_Tr_mostOf).2.2.2.1 = 2 := (mi_at mi_Tr_mostOf).2.1
theorem rt_Tr_mostOf : (q_ms n_Tr_mostOf).2.2.2.2.1 = (some ClassFile.FieldType.int) := (mi_at mi_Tr_mostOf).2.2.1
theorem vk_Tr_mostOf : (q_ms n_Tr_mostOf).1 = 0 ∧ (q_ms n_Tr_mostOf).2.1 = 8 ∧ (q_ms n_Tr_mostOf).2.2.2.2.2.1 = 1 := ⟨(mi_at mi_Tr_mostOf).2.2.2.1, (mi_at mi_Tr_mostOf).1, (mi_at mi_Tr_mostOf).2.2.2.2⟩
theorem mi_Bu_branch : q_ms n_Bu_branch = (0, 0, prog_2_method_11_code, 5, none, 4, ⟨"PatternTrier$Builder", "branch", "(IIIZ)V"⟩) := rfl
theorem own_Bu_branch : (q_ms n_Bu_branch).2.1 = 0 := (mi_at mi_Bu_branch).1
theorem nl_Bu_branch : (q_ms n_Bu_branch).2.2.2.1 = 5 := (mi_at mi_Bu_branch).2.1
theorem rt_Bu_branch : (q_ms n_Bu_branch).2.2.2.2.1 = none := (mi_at mi_Bu_branch).2.2.1
theorem vk_Bu_branch : (q_ms n_Bu_branch).1 = 0 ∧ (q_ms n_Bu_branch).2.1 = 0 ∧ (q_ms n_Bu_branch).2.2.2.2.2.1 = 4 := ⟨(mi_at mi_Bu_branch).2.2.2.1, (mi_at mi_Bu_branch).1, (mi_at mi_Bu_branch).2.2.2.2⟩
theorem mi_Pr_branch : q_ms n_Pr_branch = (0, 5, prog_7_method_4_code, 4, none, 3, ⟨"PatternTrier$Program", "branch", "(III)V"⟩) := rfl
theorem own_Pr_branch : (q_ms n_Pr_branch).2.1 = 5 := (mi_at mi_Pr_branch).1
theorem nl_Pr_branch : (q_ms n_Pr_branch).2.2.2.1 = 4 := (mi_at mi_Pr_branch).2.1
theorem rt_Pr_branch : (q_ms n_Pr_branch).2.2.2.2.1 = none := (mi_at mi_Pr_branch).2.2.1
theorem vk_Pr_branch : (q_ms n_Pr_branch).1 = 0 ∧ (q_ms n_Pr_branch).2.1 = 5 ∧ (q_ms n_Pr_branch).2.2.2.2.2.1 = 3 := ⟨(mi_at mi_Pr_branch).2.2.2.1, (mi_at mi_Pr_branch).1, (mi_at mi_Pr_branch).2.2.2.2⟩
theorem mi_Tr_leastOf : q_ms n_Tr_leastOf = (0, 8, prog_10_method_10_code, 2, (some ClassFile.FieldType.int), 1, ⟨"PatternTrier$Tree", "leastOf", "(I)I"⟩) := rfl
theorem own_Tr_leastOf : (q_ms n_Tr_leastOf).2.1 = 8 := (mi_at mi_Tr_leastOf).1
theorem nl_Tr_leastOf : (q_ms n_Tr_leastOf).2.2.2.1 = 2 := (mi_at mi_Tr_leastOf).2.1
theorem rt_Tr_leastOf : (q_ms n_Tr_leastOf).2.2.2.2.1 = (some ClassFile.FieldType.int) := (mi_at mi_Tr_leastOf).2.2.1
theorem vk_Tr_leastOf : (q_ms n_Tr_leastOf).1 = 0 ∧ (q_ms n_Tr_leastOf).2.1 = 8 ∧ (q_ms n_Tr_leastOf).2.2.2.2.2.1 = 1 := ⟨(mi_at mi_Tr_leastOf).2.2.2.1, (mi_at mi_Tr_leastOf).1, (mi_at mi_Tr_leastOf).2.2.2.2⟩
theorem mi_Bu_buildLeast : q_ms n_Bu_buildLeast = (0, 0, prog_2_method_9_code, 7, (some ClassFile.FieldType.int), 4, ⟨"PatternTrier$Builder", "buildLeast", "(IIII)I"⟩) := rfl
theorem own_Bu_buildLeast : (q_ms n_Bu_buildLeast).2.1 = 0 := (mi_at mi_Bu_buildLeast).1
theorem nl_Bu_buildLeast : (q_ms n_Bu_buildLeast).2.2.2.1 = 7 := (mi_at mi_Bu_buildLeast).2.1
theorem rt_Bu_buildLeast : (q_ms n_Bu_buildLeast).2.2.2.2.1 = (some ClassFile.FieldType.int) := (mi_at mi_Bu_buildLeast).2.2.1
theorem vk_Bu_buildLeast : (q_ms n_Bu_buildLeast).1 = 0 ∧ (q_ms n_Bu_buildLeast).2.1 = 0 ∧ (q_ms n_Bu_buildLeast).2.2.2.2.2.1 = 4 := ⟨(mi_at mi_Bu_buildLeast).2.2.2.1, (mi_at mi_Bu_buildLeast).1, (mi_at mi_Bu_buildLeast).2.2.2.2⟩
theorem mi_Bu_buildGroup : q_ms n_Bu_buildGroup = (0, 0, prog_2_method_6_code, 8, (some ClassFile.FieldType.int), 4, ⟨"PatternTrier$Builder", "buildGroup", "(IIII)I"⟩) := rfl
theorem own_Bu_buildGroup : (q_ms n_Bu_buildGroup).2.1 = 0 := (mi_at mi_Bu_buildGroup).1
theorem nl_Bu_buildGroup : (q_ms n_Bu_buildGroup).2.2.2.1 = 8 := (mi_at mi_Bu_buildGroup).2.1
theorem rt_Bu_buildGroup : (q_ms n_Bu_buildGroup).2.2.2.2.1 = (some ClassFile.FieldType.int) := (mi_at mi_Bu_buildGroup).2.2.1
theorem vk_Bu_buildGroup : (q_ms n_Bu_buildGroup).1 = 0 ∧ (q_ms n_Bu_buildGroup).2.1 = 0 ∧ (q_ms n_Bu_buildGroup).2.2.2.2.2.1 = 4 := ⟨(mi_at mi_Bu_buildGroup).2.2.2.1, (mi_at mi_Bu_buildGroup).1, (mi_at mi_Bu_buildGroup).2.2.2.2⟩
theorem mi_Bu_buildAhead : q_ms n_Bu_buildAhead = (0, 0, prog_2_method_7_code, 6, (some ClassFile.FieldType.int), 4, ⟨"PatternTrier$Builder", "buildAhead", "(IIII)I"⟩) := rfl
theorem own_Bu_buildAhead : (q_ms n_Bu_buildAhead).2.1 = 0 := (mi_at mi_Bu_buildAhead).1
theorem nl_Bu_buildAhead : (q_ms n_Bu_buildAhead).2.2.2.1 = 6 := (mi_at mi_Bu_buildAhead).2.1
theorem rt_Bu_buildAhead : (q_ms n_Bu_buildAhead).2.2.2.2.1 = (some ClassFile.FieldType.int) := (mi_at mi_Bu_buildAhead).2.2.1
theorem vk_Bu_buildAhead : (q_ms n_Bu_buildAhead).1 = 0 ∧ (q_ms n_Bu_buildAhead).2.1 = 0 ∧ (q_ms n_Bu_buildAhead).2.2.2.2.2.1 = 4 := ⟨(mi_at mi_Bu_buildAhead).2.2.2.1, (mi_at mi_Bu_buildAhead).1, (mi_at mi_Bu_buildAhead).2.2.2.2⟩
theorem mi_Tr_beforeOf : q_ms n_Tr_beforeOf = (0, 8, prog_10_method_9_code, 2, (some ClassFile.FieldType.int), 1, ⟨"PatternTrier$Tree", "beforeOf", "(I)I"⟩) := rfl
theorem own_Tr_beforeOf : (q_ms n_Tr_beforeOf).2.1 = 8 := (mi_at mi_Tr_beforeOf).1
theorem nl_Tr_beforeOf : (q_ms n_Tr_beforeOf).2.2.2.1 = 2 := (mi_at mi_Tr_beforeOf).2.1
theorem rt_Tr_beforeOf : (q_ms n_Tr_beforeOf).2.2.2.2.1 = (some ClassFile.FieldType.int) := (mi_at mi_Tr_beforeOf).2.2.1
theorem vk_Tr_beforeOf : (q_ms n_Tr_beforeOf).1 = 0 ∧ (q_ms n_Tr_beforeOf).2.1 = 8 ∧ (q_ms n_Tr_beforeOf).2.2.2.2.2.1 = 1 := ⟨(mi_at mi_Tr_beforeOf).2.2.2.1, (mi_at mi_Tr_beforeOf).1, (mi_at mi_Tr_beforeOf).2.2.2.2⟩
theorem mi_Pr_finish : q_ms n_Pr_finish = (0, 5, prog_7_method_5_code, 5, none, 4, ⟨"PatternTrier$Program", "finish", "(ILPatternTrier$Tree;II)V"⟩) := rfl
theorem own_Pr_finish : (q_ms n_Pr_finish).2.1 = 5 := (mi_at mi_Pr_finish).1
theorem nl_Pr_finish : (q_ms n_Pr_finish).2.2.2.1 = 5 := (mi_at mi_Pr_finish).2.1
theorem rt_Pr_finish : (q_ms n_Pr_finish).2.2.2.2.1 = none := (mi_at mi_Pr_finish).2.2.1
theorem vk_Pr_finish : (q_ms n_Pr_finish).1 = 0 ∧ (q_ms n_Pr_finish).2.1 = 5 ∧ (q_ms n_Pr_finish).2.2.2.2.2.1 = 4 := ⟨(mi_at mi_Pr_finish).2.2.2.1, (mi_at mi_Pr_finish).1, (mi_at mi_Pr_finish).2.2.2.2⟩
theorem mi_Se_copy : q_ms n_Se_copy = (0, 7, prog_9_method_8_code, 3, none, 1, ⟨"PatternTrier$Sets", "copy", "(LPatternTrier$Sets;)V"⟩) := rfl
theorem own_Se_copy : (q_ms n_Se_copy).2.1 = 7 := (mi_at mi_Se_copy).1
theorem nl_Se_copy : (q_ms n_Se_copy).2.2.2.1 = 3 := (mi_at mi_Se_copy).2.1
theorem rt_Se_copy : (q_ms n_Se_copy).2.2.2.2.1 = none := (mi_at mi_Se_copy).2.2.1
theorem vk_Se_copy : (q_ms n_Se_copy).1 = 0 ∧ (q_ms n_Se_copy).2.1 = 7 ∧ (q_ms n_Se_copy).2.2.2.2.2.1 = 1 := ⟨(mi_at mi_Se_copy).2.2.2.1, (mi_at mi_Se_copy).1, (mi_at mi_Se_copy).2.2.2.2⟩
theorem mi_Tr_onlySet : q_ms n_Tr_onlySet = (0, 8, prog_10_method_14_code, 5, (some ClassFile.FieldType.int), 1, ⟨"PatternTrier$Tree", "onlySet", "(I)I"⟩) := rfl
theorem own_Tr_onlySet : (q_ms n_Tr_onlySet).2.1 = 8 := (mi_at mi_Tr_onlySet).1
theorem nl_Tr_onlySet : (q_ms n_Tr_onlySet).2.2.2.1 = 5 := (mi_at mi_Tr_onlySet).2.1
theorem rt_Tr_onlySet : (q_ms n_Tr_onlySet).2.2.2.2.1 = (some ClassFile.FieldType.int) := (mi_at mi_Tr_onlySet).2.2.1
theorem vk_Tr_onlySet : (q_ms n_Tr_onlySet).1 = 0 ∧ (q_ms n_Tr_onlySet).2.1 = 8 ∧ (q_ms n_Tr_onlySet).2.2.2.2.2.1 = 1 := ⟨(mi_at mi_Tr_onlySet).2.2.2.1, (mi_at mi_Tr_onlySet).1, (mi_at mi_Tr_onlySet).2.2.2.2⟩
theorem mi_Pr_weight : q_ms n_Pr_weight = (0, 5, prog_7_method_15_code, 1, (some ClassFile.FieldType.int), 0, ⟨"PatternTrier$Program", "weight", "()I"⟩) := rfl
theorem own_Pr_weight : (q_ms n_Pr_weight).2.1 = 5 := (mi_at mi_Pr_weight).1
theorem nl_Pr_weight : (q_ms n_Pr_weight).2.2.2.1 = 1 := (mi_at mi_Pr_weight).2.1
theorem rt_Pr_weight : (q_ms n_Pr_weight).2.2.2.2.1 = (some ClassFile.FieldType.int) := (mi_at mi_Pr_weight).2.2.1
theorem vk_Pr_weight : (q_ms n_Pr_weight).1 = 0 ∧ (q_ms n_Pr_weight).2.1 = 5 ∧ (q_ms n_Pr_weight).2.2.2.2.2.1 = 0 := ⟨(mi_at mi_Pr_weight).2.2.2.1, (mi_at mi_Pr_weight).1, (mi_at mi_Pr_weight).2.2.2.2⟩
theorem mi_P_text : q_ms n_P_text = (0, 10, prog_1_method_5_code, 4, (some ClassFile.FieldType.int), 1, ⟨"PatternTrier", "text", "(I)I"⟩) := rfl
theorem own_P_text : (q_ms n_P_text).2.1 = 10 := (mi_at mi_P_text).1
theorem nl_P_text : (q_ms n_P_text).2.2.2.1 = 4 := (mi_at mi_P_text).2.1
theorem rt_P_text : (q_ms n_P_text).2.2.2.2.1 = (some ClassFile.FieldType.int) := (mi_at mi_P_text).2.2.1
theorem vk_P_text : (q_ms n_P_text).1 = 0 ∧ (q_ms n_P_text).2.1 = 10 ∧ (q_ms n_P_text).2.2.2.2.2.1 = 1 := ⟨(mi_at mi_P_text).2.2.2.1, (mi_at mi_P_text).1, (mi_at mi_P_text).2.2.2.2⟩
theorem mi_P_textAt : q_ms n_P_textAt = (0, 10, prog_1_method_18_code, 2, (some (ClassFile.FieldType.object "PatternTrier$Bytes")), 1, ⟨"PatternTrier", "textAt", "(I)LPatternTrier$Bytes;"⟩) := rfl
theorem own_P_textAt : (q_ms n_P_textAt).2.1 = 10 := (mi_at mi_P_textAt).1
theorem nl_P_textAt : (q_ms n_P_textAt).2.2.2.1 = 2 := (mi_at mi_P_textAt).2.1
theorem rt_P_textAt : (q_ms n_P_textAt).2.2.2.2.1 = (some (ClassFile.FieldType.object "PatternTrier$Bytes")) := (mi_at mi_P_textAt).2.2.1
theorem vk_P_textAt : (q_ms n_P_textAt).1 = 0 ∧ (q_ms n_P_textAt).2.1 = 10 ∧ (q_ms n_P_textAt).2.2.2.2.2.1 = 1 := ⟨(mi_at mi_P_textAt).2.2.2.1, (mi_at mi_P_textAt).1, (mi_at mi_P_textAt).2.2.2.2⟩
theorem mi_By_copy : q_ms n_By_copy = (0, 1, prog_3_method_8_code, 2, none, 1, ⟨"PatternTrier$Bytes", "copy", "(LPatternTrier$Bytes;)V"⟩) := rfl
theorem own_By_copy : (q_ms n_By_copy).2.1 = 1 := (mi_at mi_By_copy).1
theorem nl_By_copy : (q_ms n_By_copy).2.2.2.1 = 2 := (mi_at mi_By_copy).2.1
theorem rt_By_copy : (q_ms n_By_copy).2.2.2.2.1 = none := (mi_at mi_By_copy).2.2.1
theorem vk_By_copy : (q_ms n_By_copy).1 = 0 ∧ (q_ms n_By_copy).2.1 = 1 ∧ (q_ms n_By_copy).2.2.2.2.2.1 = 1 := ⟨(mi_at mi_By_copy).2.2.2.1, (mi_at mi_By_copy).1, (mi_at mi_By_copy).2.2.2.2⟩
theorem mi_By_addPart : q_ms n_By_addPart = (0, 1, prog_3_method_6_code, 5, (some ClassFile.FieldType.boolean), 3, ⟨"PatternTrier$Bytes", "addPart", "(LPatternTrier$Bytes;II)Z"⟩) := rfl
theorem own_By_addPart : (q_ms n_By_addPart).2.1 = 1 := (mi_at mi_By_addPart).1
theorem nl_By_addPart : (q_ms n_By_addPart).2.2.2.1 = 5 := (mi_at mi_By_addPart).2.1
theorem rt_By_addPart : (q_ms n_By_addPart).2.2.2.2.1 = (some ClassFile.FieldType.boolean) := (mi_at mi_By_addPart).2.2.1
theorem vk_By_addPart : (q_ms n_By_addPart).1 = 0 ∧ (q_ms n_By_addPart).2.1 = 1 ∧ (q_ms n_By_addPart).2.2.2.2.2.1 = 3 := ⟨(mi_at mi_By_addPart).2.2.2.1, (mi_at mi_By_addPart).1, (mi_at mi_By_addPart).2.2.2.2⟩
theorem mi_P_match : q_ms n_P_match = (0, 10, prog_1_method_6_code, 9, (some ClassFile.FieldType.int), 4, ⟨"PatternTrier", "match", "(IIII)I"⟩) := rfl
theorem own_P_match : (q_ms n_P_match).2.1 = 10 := (mi_at mi_P_match).1
theorem nl_P_match : (q_ms n_P_match).2.2.2.1 = 9 := (mi_at mi_P_match).2.1
theorem rt_P_match : (q_ms n_P_match).2.2.2.2.1 = (some ClassFile.FieldType.int) := (mi_at mi_P_match).2.2.1
theorem vk_P_match : (q_ms n_P_match).1 = 0 ∧ (q_ms n_P_match).2.1 = 10 ∧ (q_ms n_P_match).2.2.2.2.2.1 = 4 := ⟨(mi_at mi_P_match).2.2.2.1, (mi_at mi_P_match).1, (mi_at mi_P_match).2.2.2.2⟩
theorem mi_P_needPattern : q_ms n_P_needPattern = (1, 10, prog_1_method_20_code, 1, none, 1, ⟨"PatternTrier", "needPattern", "(LPatternTrier$Program;)V"⟩) := rfl
theorem own_P_needPattern : (q_ms n_P_needPattern).2.1 = 10 := (mi_at mi_P_needPattern).1
theorem nl_P_needPattern : (q_ms n_P_needPattern).2.2.2.1 = 1 := (mi_at mi_P_needPattern).2.1
theorem rt_P_needPattern : (q_ms n_P_needPattern).2.2.2.2.1 = none := (mi_at mi_P_needPattern).2.2.1
theorem vk_P_needPattern : (q_ms n_P_needPattern).1 = 1 ∧ (q_ms n_P_needPattern).2.2.2.2.2.1 = 1 := ⟨(mi_at mi_P_needPattern).2.2.2.1, (mi_at mi_P_needPattern).2.2.2.2⟩
theorem mi_Wa_prepare : q_ms n_Wa_prepare = (0, 9, prog_11_method_2_code, 4, none, 3, ⟨"PatternTrier$Walker", "prepare", "(LPatternTrier$Program;LPatternTrier$Bytes;Z)V"⟩) := rfl
theorem own_Wa_prepare : (q_ms n_Wa_prepare).2.1 = 9 := (mi_at mi_Wa_prepare).1
theorem nl_Wa_prepare : (q_ms n_Wa_prepare).2.2.2.1 = 4 := (mi_at mi_Wa_prepare).2.1
theorem rt_Wa_prepare : (q_ms n_Wa_prepare).2.2.2.2.1 = none := (mi_at mi_Wa_prepare).2.2.1
theorem vk_Wa_prepare : (q_ms n_Wa_prepare).1 = 0 ∧ (q_ms n_Wa_prepare).2.1 = 9 ∧ (q_ms n_Wa_prepare).2.2.2.2.2.1 = 3 := ⟨(mi_at mi_Wa_prepare).2.2.2.1, (mi_at mi_Wa_prepare).1, (mi_at mi_Wa_prepare).2.2.2.2⟩
theorem mi_Pr_slots : q_ms n_Pr_slots = (0, 5, prog_7_method_13_code, 1, (some ClassFile.FieldType.int), 0, ⟨"PatternTrier$Program", "slots", "()I"⟩) := rfl
theorem own_Pr_slots : (q_ms n_Pr_slots).2.1 = 5 := (mi_at mi_Pr_slots).1
theorem nl_Pr_slots : (q_ms n_Pr_slots).2.2.2.1 = 1 := (mi_at mi_Pr_slots).2.1
theorem rt_Pr_slots : (q_ms n_Pr_slots).2.2.2.2.1 = (some ClassFile.FieldType.int) := (mi_at mi_Pr_slots).2.2.1
theorem vk_Pr_slots : (q_ms n_Pr_slots).1 = 0 ∧ (q_ms n_Pr_slots).2.1 = 5 ∧ (q_ms n_Pr_slots).2.2.2.2.2.1 = 0 := ⟨(mi_at mi_Pr_slots).2.2.2.1, (mi_at mi_Pr_slots).1, (mi_at mi_Pr_slots).2.2.2.2⟩
theorem mi_Fl_clear : q_ms n_Fl_clear = (0, 2, prog_4_method_2_code, 5, none, 1, ⟨"PatternTrier$Failures", "clear", "(I)V"⟩) := rfl
theorem own_Fl_clear : (q_ms n_Fl_clear).2.1 = 2 := (mi_at mi_Fl_clear).1
theorem nl_Fl_clear : (q_ms n_Fl_clear).2.2.2.1 = 5 := (mi_at mi_Fl_clear).2.1
theorem rt_Fl_clear : (q_ms n_Fl_clear).2.2.2.2.1 = none := (mi_at mi_Fl_clear).2.2.1
theorem vk_Fl_clear : (q_ms n_Fl_clear).1 = 0 ∧ (q_ms n_Fl_clear).2.1 = 2 ∧ (q_ms n_Fl_clear).2.2.2.2.2.1 = 1 := ⟨(mi_at mi_Fl_clear).2.2.2.1, (mi_at mi_Fl_clear).1, (mi_at mi_Fl_clear).2.2.2.2⟩
theorem mi_Ar_fill_AIIIIV : q_ms n_Ar_fill_AIIIIV = (1, 13, prog_32_method_104_code, 5, none, 4, ⟨"java/util/Arrays", "fill", "([IIII)V"⟩) := rfl
theorem own_Ar_fill_AIIIIV : (q_ms n_Ar_fill_AIIIIV).2.1 = 13 := (mi_at mi_Ar_fill_AIIIIV).1
theorem nl_Ar_fill_AIIIIV : (q_ms n_Ar_fill_AIIIIV).2.2.2.1 = 5 := (mi_at mi_Ar_fill_AIIIIV).2.1
theorem rt_Ar_fill_AIIIIV : (q_ms n_Ar_fill_AIIIIV).2.2.2.2.1 = none := (mi_at mi_Ar_fill_AIIIIV).2.2.1
theorem vk_Ar_fill_AIIIIV : (q_ms n_Ar_fill_AIIIIV).1 = 1 ∧ (q_ms n_Ar_fill_AIIIIV).2.2.2.2.2.1 = 4 := ⟨(mi_at mi_Ar_fill_AIIIIV).2.2.2.1, (mi_at mi_Ar_fill_AIIIIV).2.2.2.2⟩
theorem mi_Ar_rangeCheck : q_ms n_Ar_rangeCheck = (1, 13, prog_32_method_30_code, 3, none, 3, ⟨"java/util/Arrays", "rangeCheck", "(III)V"⟩) := rfl
theorem own_Ar_rangeCheck : (q_ms n_Ar_rangeCheck).2.1 = 13 := (mi_at mi_Ar_rangeCheck).1
theorem nl_Ar_rangeCheck : (q_ms n_Ar_rangeCheck).2.2.2.1 = 3 := (mi_at mi_Ar_rangeCheck).2.1
theorem rt_Ar_rangeCheck : (q_ms n_Ar_rangeCheck).2.2.2.2.1 = none := (mi_at mi_Ar_rangeCheck).2.2.1
theorem vk_Ar_rangeCheck : (q_ms n_Ar_rangeCheck).1 = 1 ∧ (q_ms n_Ar_rangeCheck).2.2.2.2.2.1 = 3 := ⟨(mi_at mi_Ar_rangeCheck).2.2.2.1, (mi_at mi_Ar_rangeCheck).2.2.2.2⟩
theorem mi_Ar_copyOfRangeByte : q_ms n_Ar_copyOfRangeByte = (1, 13, prog_32_method_133_code, 5, (some (ClassFile.FieldType.array ClassFile.FieldType.byte)), 3, ⟨"java/util/Arrays", "copyOfRangeByte", "([BII)[B"⟩) := rfl
theorem own_Ar_copyOfRangeByte : (q_ms n_Ar_copyOfRangeByte).2.1 = 13 := (mi_at mi_Ar_copyOfRangeByte).1
theorem nl_Ar_copyOfRangeByte : (q_ms n_Ar_copyOfRangeByte).2.2.2.1 = 5 := (mi_at mi_Ar_copyOfRangeByte).2.1
theorem rt_Ar_copyOfRangeByte : (q_ms n_Ar_copyOfRangeByte).2.2.2.2.1 = (some (ClassFile.FieldType.array ClassFile.FieldType.byte)) := (mi_at mi_Ar_copyOfRangeByte).2.2.1
theorem vk_Ar_copyOfRangeByte : (q_ms n_Ar_copyOfRangeByte).1 = 1 ∧ (q_ms n_Ar_copyOfRangeByte).2.2.2.2.2.1 = 3 := ⟨(mi_at mi_Ar_copyOfRangeByte).2.2.2.1, (mi_at mi_Ar_copyOfRangeByte).2.2.2.2⟩
theorem mi_Ar_checkLength : q_ms n_Ar_checkLength = (1, 13, prog_32_method_131_code, 2, none, 2, ⟨"java/util/Arrays", "checkLength", "(II)V"⟩) := rfl
theorem own_Ar_checkLength : (q_ms n_Ar_checkLength).2.1 = 13 := (mi_at mi_Ar_checkLength).1
theorem nl_Ar_checkLength : (q_ms n_Ar_checkLength).2.2.2.1 = 2 := (mi_at mi_Ar_checkLength).2.1
theorem rt_Ar_checkLength : (q_ms n_Ar_checkLength).2.2.2.2.1 = none := (mi_at mi_Ar_checkLength).2.2.1
theorem vk_Ar_checkLength : (q_ms n_Ar_checkLength).1 = 1 ∧ (q_ms n_Ar_checkLength).2.2.2.2.2.1 = 2 := ⟨(mi_at mi_Ar_checkLength).2.2.2.1, (mi_at mi_Ar_checkLength).2.2.2.2⟩
theorem mi_Wa_tryPlaces : q_ms n_Wa_tryPlaces = (0, 9, prog_11_method_3_code, 5, (some ClassFile.FieldType.boolean), 2, ⟨"PatternTrier$Walker", "tryPlaces", "(II)Z"⟩) := rfl
theorem own_Wa_tryPlaces : (q_ms n_Wa_tryPlaces).2.1 = 9 := (mi_at mi_Wa_tryPlaces).1
theorem nl_Wa_tryPlaces : (q_ms n_Wa_tryPlaces).2.2.2.1 = 5 := (mi_at mi_Wa_tryPlaces).2.1
theorem rt_Wa_tryPlaces : (q_ms n_Wa_tryPlaces).2.2.2.2.1 = (some ClassFile.FieldType.boolean) := (mi_at mi_Wa_tryPlaces).2.2.1
theorem vk_Wa_tryPlaces : (q_ms n_Wa_tryPlaces).1 = 0 ∧ (q_ms n_Wa_tryPlaces).2.1 = 9 ∧ (q_ms n_Wa_tryPlaces).2.2.2.2.2.1 = 2 := ⟨(mi_at mi_Wa_tryPlaces).2.2.2.1, (mi_at mi_Wa_tryPlaces).1, (mi_at mi_Wa_tryPlaces).2.2.2.2⟩
theorem mi_Pi_clear : q_ms n_Pi_clear = (0, 4, prog_6_method_8_code, 1, none, 0, ⟨"PatternTrier$Pile", "clear", "()V"⟩) := rfl
theorem own_Pi_clear : (q_ms n_Pi_clear).2.1 = 4 := (mi_at mi_Pi_clear).1
theorem nl_Pi_clear : (q_ms n_Pi_clear).2.2.2.1 = 1 := (mi_at mi_Pi_clear).2.1
theorem rt_Pi_clear : (q_ms n_Pi_clear).2.2.2.2.1 = none := (mi_at mi_Pi_clear).2.2.1
theorem vk_Pi_clear : (q_ms n_Pi_clear).1 = 0 ∧ (q_ms n_Pi_clear).2.1 = 4 ∧ (q_ms n_Pi_clear).2.2.2.2.2.1 = 0 := ⟨(mi_at mi_Pi_clear).2.2.2.1, (mi_at mi_Pi_clear).1, (mi_at mi_Pi_clear).2.2.2.2⟩
theorem mi_Pr_entry : q_ms n_Pr_entry = (0, 5, prog_7_method_14_code, 1, (some ClassFile.FieldType.int), 0, ⟨"PatternTrier$Program", "entry", "()I"⟩) := rfl
theorem own_Pr_entry : (q_ms n_Pr_entry).2.1 = 5 := (mi_at mi_Pr_entry).1
theorem nl_Pr_entry : (q_ms n_Pr_entry).2.2.2.1 = 1 := (mi_at mi_Pr_entry).2.1
theorem rt_Pr_entry : (q_ms n_Pr_entry).2.2.2.2.1 = (some ClassFile.FieldType.int) := (mi_at mi_Pr_entry).2.2.1
theorem vk_Pr_entry : (q_ms n_Pr_entry).1 = 0 ∧ (q_ms n_Pr_entry).2.1 = 5 ∧ (q_ms n_Pr_entry).2.2.2.2.2.1 = 0 := ⟨(mi_at mi_Pr_entry).2.2.2.1, (mi_at mi_Pr_entry).1, (mi_at mi_Pr_entry).2.2.2.2⟩
theorem mi_Wa_walk : q_ms n_Wa_walk = (0, 9, prog_11_method_7_code, 7, (some ClassFile.FieldType.int), 3, ⟨"PatternTrier$Walker", "walk", "(III)I"⟩) := rfl
theorem own_Wa_walk : (q_ms n_Wa_walk).2.1 = 9 := (mi_at mi_Wa_walk).1
theorem nl_Wa_walk : (q_ms n_Wa_walk).2.2.2.1 = 7 := (mi_at mi_Wa_walk).2.1
theorem rt_Wa_walk : (q_ms n_Wa_walk).2.2.2.2.1 = (some ClassFile.FieldType.int) := (mi_at mi_Wa_walk).2.2.1
theorem vk_Wa_walk : (q_ms n_Wa_walk).1 = 0 ∧ (q_ms n_Wa_walk).2.1 = 9 ∧ (q_ms n_Wa_walk).2.2.2.2.2.1 = 3 := ⟨(mi_at mi_Wa_walk).2.2.2.1, (mi_at mi_Wa_walk).1, (mi_at mi_Wa_walk).2.2.2.2⟩
theorem mi_Pi_size : q_ms n_Pi_size = (0, 4, prog_6_method_7_code, 1, (some ClassFile.FieldType.int), 0, ⟨"PatternTrier$Pile", "size", "()I"⟩) := rfl
theorem own_Pi_size : (q_ms n_Pi_size).2.1 = 4 := (mi_at mi_Pi_size).1
theorem nl_Pi_size : (q_ms n_Pi_size).2.2.2.1 = 1 := (mi_at mi_Pi_size).2.1
theorem rt_Pi_size : (q_ms n_Pi_size).2.2.2.2.1 = (some ClassFile.FieldType.int) := (mi_at mi_Pi_size).2.2.1
theorem vk_Pi_size : (q_ms n_Pi_size).1 = 0 ∧ (q_ms n_Pi_size).2.1 = 4 ∧ (q_ms n_Pi_size).2.2.2.2.2.1 = 0 := ⟨(mi_at mi_Pi_size).2.2.2.1, (mi_at mi_Pi_size).1, (mi_at mi_Pi_size).2.2.2.2⟩
theorem mi_Wa_advance : q_ms n_Wa_advance = (0, 9, prog_11_method_8_code, 3, (some ClassFile.FieldType.boolean), 1, ⟨"PatternTrier$Walker", "advance", "(I)Z"⟩) := rfl
theorem own_Wa_advance : (q_ms n_Wa_advance).2.1 = 9 := (mi_at mi_Wa_advance).1
theorem nl_Wa_advance : (q_ms n_Wa_advance).2.2.2.1 = 3 := (mi_at mi_Wa_advance).2.1
theorem rt_Wa_advance : (q_ms n_Wa_advance).2.2.2.2.1 = (some ClassFile.FieldType.boolean) := (mi_at mi_Wa_advance).2.2.1
theorem vk_Wa_advance : (q_ms n_Wa_advance).1 = 0 ∧ (q_ms n_Wa_advance).2.1 = 9 ∧ (q_ms n_Wa_advance).2.2.2.2.2.1 = 1 := ⟨(mi_at mi_Wa_advance).2.2.2.1, (mi_at mi_Wa_advance).1, (mi_at mi_Wa_advance).2.2.2.2⟩
theorem mi_Pr_valueOf : q_ms n_Pr_valueOf = (0, 5, prog_7_method_8_code, 2, (some ClassFile.FieldType.int), 1, ⟨"PatternTrier$Program", "valueOf", "(I)I"⟩) := rfl
theorem own_Pr_valueOf : (q_ms n_Pr_valueOf).2.1 = 5 := (mi_at mi_Pr_valueOf).1
theorem nl_Pr_valueOf : (q_ms n_Pr_valueOf).2.2.2.1 = 2 := (mi_at mi_Pr_valueOf).2.1
theorem rt_Pr_valueOf : (q_ms n_Pr_valueOf).2.2.2.2.1 = (some ClassFile.FieldType.int) := (mi_at mi_Pr_valueOf).2.2.1
theorem vk_Pr_valueOf : (q_ms n_Pr_valueOf).1 = 0 ∧ (q_ms n_Pr_valueOf).2.1 = 5 ∧ (q_ms n_Pr_valueOf).2.2.2.2.2.1 = 1 := ⟨(mi_at mi_Pr_valueOf).2.2.2.1, (mi_at mi_Pr_valueOf).1, (mi_at mi_Pr_valueOf).2.2.2.2⟩
theorem mi_Pr_kindOf : q_ms n_Pr_kindOf = (0, 5, prog_7_method_7_code, 2, (some ClassFile.FieldType.int), 1, ⟨"PatternTrier$Program", "kindOf", "(I)I"⟩) := rfl
theorem own_Pr_kindOf : (q_ms n_Pr_kindOf).2.1 = 5 := (mi_at mi_Pr_kindOf).1
theorem nl_Pr_kindOf : (q_ms n_Pr_kindOf).2.2.2.1 = 2 := (mi_at mi_Pr_kindOf).2.1
theorem rt_Pr_kindOf : (q_ms n_Pr_kindOf).2.2.2.2.1 = (some ClassFile.FieldType.int) := (mi_at mi_Pr_kindOf).2.2.1
theorem vk_Pr_kindOf : (q_ms n_Pr_kindOf).1 = 0 ∧ (q_ms n_Pr_kindOf).2.1 = 5 ∧ (q_ms n_Pr_kindOf).2.2.2.2.2.1 = 1 := ⟨(mi_at mi_Pr_kindOf).2.2.2.1, (mi_at mi_Pr_kindOf).1, (mi_at mi_Pr_kindOf).2.2.2.2⟩
theorem mi_Wa_take : q_ms n_Wa_take = (0, 9, prog_11_method_10_code, 1, (some ClassFile.FieldType.boolean), 0, ⟨"PatternTrier$Walker", "take", "()Z"⟩) := rfl
theorem own_Wa_take : (q_ms n_Wa_take).2.1 = 9 := (mi_at mi_Wa_take).1
theorem nl_Wa_take : (q_ms n_Wa_take).2.2.2.1 = 1 := (mi_at mi_Wa_take).2.1
theorem rt_Wa_take : (q_ms n_Wa_take).2.2.2.2.1 = (some ClassFile.FieldType.boolean) := (mi_at mi_Wa_take).2.2.1
theorem vk_Wa_take : (q_ms n_Wa_take).1 = 0 ∧ (q_ms n_Wa_take).2.1 = 9 ∧ (q_ms n_Wa_take).2.2.2.2.2.1 = 0 := ⟨(mi_at mi_Wa_take).2.2.2.1, (mi_at mi_Wa_take).1, (mi_at mi_Wa_take).2.2.2.2⟩
theorem mi_Pr_depthOf : q_ms n_Pr_depthOf = (0, 5, prog_7_method_11_code, 2, (some ClassFile.FieldType.int), 1, ⟨"PatternTrier$Program", "depthOf", "(I)I"⟩) := rfl
theorem own_Pr_depthOf : (q_ms n_Pr_depthOf).2.1 = 5 := (mi_at mi_Pr_depthOf).1
theorem nl_Pr_depthOf : (q_ms n_Pr_depthOf).2.2.2.1 = 2 := (mi_at mi_Pr_depthOf).2.1
theorem rt_Pr_depthOf : (q_ms n_Pr_depthOf).2.2.2.2.1 = (some ClassFile.FieldType.int) := (mi_at mi_Pr_depthOf).2.2.1
theorem vk_Pr_depthOf : (q_ms n_Pr_depthOf).1 = 0 ∧ (q_ms n_Pr_depthOf).2.1 = 5 ∧ (q_ms n_Pr_depthOf).2.2.2.2.2.1 = 1 := ⟨(mi_at mi_Pr_depthOf).2.2.2.1, (mi_at mi_Pr_depthOf).1, (mi_at mi_Pr_depthOf).2.2.2.2⟩
theorem mi_Wa_pass : q_ms n_Wa_pass = (0, 9, prog_11_method_9_code, 1, (some ClassFile.FieldType.boolean), 0, ⟨"PatternTrier$Walker", "pass", "()Z"⟩) := rfl
theorem own_Wa_pass : (q_ms n_Wa_pass).2.1 = 9 := (mi_at mi_Wa_pass).1
theorem nl_Wa_pass : (q_ms n_Wa_pass).2.2.2.1 = 1 := (mi_at mi_Wa_pass).2.1
theorem rt_Wa_pass : (q_ms n_Wa_pass).2.2.2.2.1 = (some ClassFile.FieldType.boolean) := (mi_at mi_Wa_pass).2.2.1
theorem vk_Wa_pass : (q_ms n_Wa_pass).1 = 0 ∧ (q_ms n_Wa_pass).2.1 = 9 ∧ (q_ms n_Wa_pass).2.2.2.2.2.1 = 0 := ⟨(mi_at mi_Wa_pass).2.2.2.1, (mi_at mi_Wa_pass).1, (mi_at mi_Wa_pass).2.2.2.2⟩
theorem mi_Pr_nextOf : q_ms n_Pr_nextOf = (0, 5, prog_7_method_9_code, 2, (some ClassFile.FieldType.int), 1, ⟨"PatternTrier$Program", "nextOf", "(I)I"⟩) := rfl
theorem own_Pr_nextOf : (q_ms n_Pr_nextOf).2.1 = 5 := (mi_at mi_Pr_nextOf).1
theorem nl_Pr_nextOf : (q_ms n_Pr_nextOf).2.2.2.1 = 2 := (mi_at mi_Pr_nextOf).2.1
theorem rt_Pr_nextOf : (q_ms n_Pr_nextOf).2.2.2.2.1 = (some ClassFile.FieldType.int) := (mi_at mi_Pr_nextOf).2.2.1
theorem vk_Pr_nextOf : (q_ms n_Pr_nextOf).1 = 0 ∧ (q_ms n_Pr_nextOf).2.1 = 5 ∧ (q_ms n_Pr_nextOf).2.2.2.2.2.1 = 1 := ⟨(mi_at mi_Pr_nextOf).2.2.2.1, (mi_at mi_Pr_nextOf).1, (mi_at mi_Pr_nextOf).2.2.2.2⟩
theorem mi_Pr_holds : q_ms n_Pr_holds = (0, 5, prog_7_method_6_code, 3, (some ClassFile.FieldType.boolean), 2, ⟨"PatternTrier$Program", "holds", "(II)Z"⟩) := rfl
theorem own_Pr_holds : (q_ms n_Pr_holds).2.1 = 5 := (mi_at mi_Pr_holds).1
theorem nl_Pr_holds : (q_ms n_Pr_holds).2.2.2.1 = 3 := (mi_at mi_Pr_holds).2.1
theorem rt_Pr_holds : (q_ms n_Pr_holds).2.2.2.2.1 = (some ClassFile.FieldType.boolean) := (mi_at mi_Pr_holds).2.2.1
theorem vk_Pr_holds : (q_ms n_Pr_holds).1 = 0 ∧ (q_ms n_Pr_holds).2.1 = 5 ∧ (q_ms n_Pr_holds).2.2.2.2.2.1 = 2 := ⟨(mi_at mi_Pr_holds).2.2.2.1, (mi_at mi_Pr_holds).1, (mi_at mi_Pr_holds).2.2.2.2⟩
theorem mi_Se_holds : q_ms n_Se_holds = (0, 7, prog_9_method_7_code, 3, (some ClassFile.FieldType.boolean), 2, ⟨"PatternTrier$Sets", "holds", "(II)Z"⟩) := rfl
theorem own_Se_holds : (q_ms n_Se_holds).2.1 = 7 := (mi_at mi_Se_holds).1
theorem nl_Se_holds : (q_ms n_Se_holds).2.2.2.1 = 3 := (mi_at mi_Se_holds).2.1
theorem rt_Se_holds : (q_ms n_Se_holds).2.2.2.2.1 = (some ClassFile.FieldType.boolean) := (mi_at mi_Se_holds).2.2.1
theorem vk_Se_holds : (q_ms n_Se_holds).1 = 0 ∧ (q_ms n_Se_holds).2.1 = 7 ∧ (q_ms n_Se_holds).2.2.2.2.2.1 = 2 := ⟨(mi_at mi_Se_holds).2.2.2.1, (mi_at mi_Se_holds).1, (mi_at mi_Se_holds).2.2.2.2⟩
theorem mi_Wa_chooseFirst : q_ms n_Wa_chooseFirst = (0, 9, prog_11_method_11_code, 1, (some ClassFile.FieldType.boolean), 0, ⟨"PatternTrier$Walker", "chooseFirst", "()Z"⟩) := rfl
theorem own_Wa_chooseFirst : (q_ms n_Wa_chooseFirst).2.1 = 9 := (mi_at mi_Wa_chooseFirst).1
theorem nl_Wa_chooseFirst : (q_ms n_Wa_chooseFirst).2.2.2.1 = 1 := (mi_at mi_Wa_chooseFirst).2.1
theorem rt_Wa_chooseFirst : (q_ms n_Wa_chooseFirst).2.2.2.2.1 = (some ClassFile.FieldType.boolean) := (mi_at mi_Wa_chooseFirst).2.2.1
theorem vk_Wa_chooseFirst : (q_ms n_Wa_chooseFirst).1 = 0 ∧ (q_ms n_Wa_chooseFirst).2.1 = 9 ∧ (q_ms n_Wa_chooseFirst).2.2.2.2.2.1 = 0 := ⟨(mi_at mi_Wa_chooseFirst).2.2.2.1, (mi_at mi_Wa_chooseFirst).1, (mi_at mi_Wa_chooseFirst).2.2.2.2⟩
theorem mi_Wa_key : q_ms n_Wa_key = (0, 9, prog_11_method_16_code, 3, (some ClassFile.FieldType.int), 2, ⟨"PatternTrier$Walker", "key", "(II)I"⟩) := rfl
theorem own_Wa_key : (q_ms n_Wa_key).2.1 = 9 := (mi_at mi_Wa_key).1
theorem nl_Wa_key : (q_ms n_Wa_key).2.2.2.1 = 3 := (mi_at mi_Wa_key).2.1
theorem rt_Wa_key : (q_ms n_Wa_key).2.2.2.2.1 = (some ClassFile.FieldType.int) := (mi_at mi_Wa_key).2.2.1
theorem vk_Wa_key : (q_ms n_Wa_key).1 = 0 ∧ (q_ms n_Wa_key).2.1 = 9 ∧ (q_ms n_Wa_key).2.2.2.2.2.1 = 2 := ⟨(mi_at mi_Wa_key).2.2.2.1, (mi_at mi_Wa_key).1, (mi_at mi_Wa_key).2.2.2.2⟩
theorem mi_Pr_slotOf : q_ms n_Pr_slotOf = (0, 5, prog_7_method_12_code, 2, (some ClassFile.FieldType.int), 1, ⟨"PatternTrier$Program", "slotOf", "(I)I"⟩) := rfl
theorem own_Pr_slotOf : (q_ms n_Pr_slotOf).2.1 = 5 := (mi_at mi_Pr_slotOf).1
theorem nl_Pr_slotOf : (q_ms n_Pr_slotOf).2.2.2.1 = 2 := (mi_at mi_Pr_slotOf).2.1
theorem rt_Pr_slotOf : (q_ms n_Pr_slotOf).2.2.2.2.1 = (some ClassFile.FieldType.int) := (mi_at mi_Pr_slotOf).2.2.1
theorem vk_Pr_slotOf : (q_ms n_Pr_slotOf).1 = 0 ∧ (q_ms n_Pr_slotOf).2.1 = 5 ∧ (q_ms n_Pr_slotOf).2.2.2.2.2.1 = 1 := ⟨(mi_at mi_Pr_slotOf).2.2.2.1, (mi_at mi_Pr_slotOf).1, (mi_at mi_Pr_slotOf).2.2.2.2⟩
theorem mi_Fl_has : q_ms n_Fl_has = (0, 2, prog_4_method_3_code, 3, (some ClassFile.FieldType.boolean), 2, ⟨"PatternTrier$Failures", "has", "(II)Z"⟩) := rfl
theorem own_Fl_has : (q_ms n_Fl_has).2.1 = 2 := (mi_at mi_Fl_has).1
theorem nl_Fl_has : (q_ms n_Fl_has).2.2.2.1 = 3 := (mi_at mi_Fl_has).2.1
theorem rt_Fl_has : (q_ms n_Fl_has).2.2.2.2.1 = (some ClassFile.FieldType.boolean) := (mi_at mi_Fl_has).2.2.1
theorem vk_Fl_has : (q_ms n_Fl_has).1 = 0 ∧ (q_ms n_Fl_has).2.1 = 2 ∧ (q_ms n_Fl_has).2.2.2.2.2.1 = 2 := ⟨(mi_at mi_Fl_has).2.2.2.1, (mi_at mi_Fl_has).1, (mi_at mi_Fl_has).2.2.2.2⟩
theorem mi_Fl_at : q_ms n_Fl_at = (0, 2, prog_4_method_5_code, 2, (some ClassFile.FieldType.int), 1, ⟨"PatternTrier$Failures", "at", "(I)I"⟩) := rfl
theorem own_Fl_at : (q_ms n_Fl_at).2.1 = 2 := (mi_at mi_Fl_at).1
theorem nl_Fl_at : (q_ms n_Fl_at).2.2.2.1 = 2 := (mi_at mi_Fl_at).2.1
theorem rt_Fl_at : (q_ms n_Fl_at).2.2.2.2.1 = (some ClassFile.FieldType.int) := (mi_at mi_Fl_at).2.2.1
theorem vk_Fl_at : (q_ms n_Fl_at).1 = 0 ∧ (q_ms n_Fl_at).2.1 = 2 ∧ (q_ms n_Fl_at).2.2.2.2.2.1 = 1 := ⟨(mi_at mi_Fl_at).2.2.2.1, (mi_at mi_Fl_at).1, (mi_at mi_Fl_at).2.2.2.2⟩
theorem mi_Pi_pack : q_ms n_Pi_pack = (1, 4, prog_6_method_2_code, 4, (some ClassFile.FieldType.int), 4, ⟨"PatternTrier$Pile", "pack", "(IIII)I"⟩) := rfl
theorem own_Pi_pack : (q_ms n_Pi_pack).2.1 = 4 := (mi_at mi_Pi_pack).1
theorem nl_Pi_pack : (q_ms n_Pi_pack).2.2.2.1 = 4 := (mi_at mi_Pi_pack).2.1
theorem rt_Pi_pack : (q_ms n_Pi_pack).2.2.2.2.1 = (some ClassFile.FieldType.int) := (mi_at mi_Pi_pack).2.2.1
theorem vk_Pi_pack : (q_ms n_Pi_pack).1 = 1 ∧ (q_ms n_Pi_pack).2.2.2.2.2.1 = 4 := ⟨(mi_at mi_Pi_pack).2.2.2.1, (mi_at mi_Pi_pack).2.2.2.2⟩
theorem mi_Pi_push : q_ms n_Pi_push = (0, 4, prog_6_method_9_code, 2, none, 1, ⟨"PatternTrier$Pile", "push", "(I)V"⟩) := rfl
theorem own_Pi_push : (q_ms n_Pi_push).2.1 = 4 := (mi_at mi_Pi_push).1
theorem nl_Pi_push : (q_ms n_Pi_push).2.2.2.1 = 2 := (mi_at mi_Pi_push).2.1
theorem rt_Pi_push : (q_ms n_Pi_push).2.2.2.2.1 = none := (mi_at mi_Pi_push).2.2.1
theorem vk_Pi_push : (q_ms n_Pi_push).1 = 0 ∧ (q_ms n_Pi_push).2.1 = 4 ∧ (q_ms n_Pi_push).2.2.2.2.2.1 = 1 := ⟨(mi_at mi_Pi_push).2.2.2.1, (mi_at mi_Pi_push).1, (mi_at mi_Pi_push).2.2.2.2⟩
theorem mi_Ar_copyOf : q_ms n_Ar_copyOf = (1, 13, prog_32_method_123_code, 3, (some (ClassFile.FieldType.array ClassFile.FieldType.int)), 2, ⟨"java/util/Arrays", "copyOf", "([II)[I"⟩) := rfl
theorem own_Ar_copyOf : (q_ms n_Ar_copyOf).2.1 = 13 := (mi_at mi_Ar_copyOf).1
theorem nl_Ar_copyOf : (q_ms n_Ar_copyOf).2.2.2.1 = 3 := (mi_at mi_Ar_copyOf).2.1
theorem rt_Ar_copyOf : (q_ms n_Ar_copyOf).2.2.2.2.1 = (some (ClassFile.FieldType.array ClassFile.FieldType.int)) := (mi_at mi_Ar_copyOf).2.2.1
theorem vk_Ar_copyOf : (q_ms n_Ar_copyOf).1 = 1 ∧ (q_ms n_Ar_copyOf).2.2.2.2.2.1 = 2 := ⟨(mi_at mi_Ar_copyOf).2.2.2.1, (mi_at mi_Ar_copyOf).2.2.2.2⟩
theorem mi_Wa_endRound : q_ms n_Wa_endRound = (0, 9, prog_11_method_12_code, 2, (some ClassFile.FieldType.boolean), 1, ⟨"PatternTrier$Walker", "endRound", "(I)Z"⟩) := rfl
theorem own_Wa_endRound : (q_ms n_Wa_endRound).2.1 = 9 := (mi_at mi_Wa_endRound).1
theorem nl_Wa_endRound : (q_ms n_Wa_endRound).2.2.2.1 = 2 := (mi_at mi_Wa_endRound).2.1
theorem rt_Wa_endRound : (q_ms n_Wa_endRound).2.2.2.2.1 = (some ClassFile.FieldType.boolean) := (mi_at mi_Wa_endRound).2.2.1
theorem vk_Wa_endRound : (q_ms n_Wa_endRound).1 = 0 ∧ (q_ms n_Wa_endRound).2.1 = 9 ∧ (q_ms n_Wa_endRound).2.2.2.2.2.1 = 1 := ⟨(mi_at mi_Wa_endRound).2.2.2.1, (mi_at mi_Wa_endRound).1, (mi_at mi_Wa_endRound).2.2.2.2⟩
theorem mi_Wa_setMark : q_ms n_Wa_setMark = (0, 9, prog_11_method_13_code, 2, (some ClassFile.FieldType.boolean), 1, ⟨"PatternTrier$Walker", "setMark", "(I)Z"⟩) := rfl
theorem own_Wa_setMark : (q_ms n_Wa_setMark).2.1 = 9 := (mi_at mi_Wa_setMark).1
theorem nl_Wa_setMark : (q_ms n_Wa_setMark).2.2.2.1 = 2 := (mi_at mi_Wa_setMark).2.1
theorem rt_Wa_setMark : (q_ms n_Wa_setMark).2.2.2.2.1 = (some ClassFile.FieldType.boolean) := (mi_at mi_Wa_setMark).2.2.1
theorem vk_Wa_setMark : (q_ms n_Wa_setMark).1 = 0 ∧ (q_ms n_Wa_setMark).2.1 = 9 ∧ (q_ms n_Wa_setMark).2.2.2.2.2.1 = 1 := ⟨(mi_at mi_Wa_setMark).2.2.2.1, (mi_at mi_Wa_setMark).1, (mi_at mi_Wa_setMark).2.2.2.2⟩
theorem mi_Wa_mark : q_ms n_Wa_mark = (0, 9, prog_11_method_4_code, 2, (some ClassFile.FieldType.int), 1, ⟨"PatternTrier$Walker", "mark", "(I)I"⟩) := rfl
theorem own_Wa_mark : (q_ms n_Wa_mark).2.1 = 9 := (mi_at mi_Wa_mark).1
theorem nl_Wa_mark : (q_ms n_Wa_mark).2.2.2.1 = 2 := (mi_at mi_Wa_mark).2.1
theorem rt_Wa_mark : (q_ms n_Wa_mark).2.2.2.2.1 = (some ClassFile.FieldType.int) := (mi_at mi_Wa_mark).2.2.1
theorem vk_Wa_mark : (q_ms n_Wa_mark).1 = 0 ∧ (q_ms n_Wa_mark).2.1 = 9 ∧ (q_ms n_Wa_mark).2.2.2.2.2.1 = 1 := ⟨(mi_at mi_Wa_mark).2.2.2.1, (mi_at mi_Wa_mark).1, (mi_at mi_Wa_mark).2.2.2.2⟩
theorem mi_Wa_isEdge : q_ms n_Wa_isEdge = (0, 9, prog_11_method_14_code, 1, (some ClassFile.FieldType.boolean), 0, ⟨"PatternTrier$Walker", "isEdge", "()Z"⟩) := rfl
theorem own_Wa_isEdge : (q_ms n_Wa_isEdge).2.1 = 9 := (mi_at mi_Wa_isEdge).1
theorem nl_Wa_isEdge : (q_ms n_Wa_isEdge).2.2.2.1 = 1 := (mi_at mi_Wa_isEdge).2.1
theorem rt_Wa_isEdge : (q_ms n_Wa_isEdge).2.2.2.2.1 = (some ClassFile.FieldType.boolean) := (mi_at mi_Wa_isEdge).2.2.1
theorem vk_Wa_isEdge : (q_ms n_Wa_isEdge).1 = 0 ∧ (q_ms n_Wa_isEdge).2.1 = 9 ∧ (q_ms n_Wa_isEdge).2.2.2.2.2.1 = 0 := ⟨(mi_at mi_Wa_isEdge).2.2.2.1, (mi_at mi_Wa_isEdge).1, (mi_at mi_Wa_isEdge).2.2.2.2⟩
theorem mi_Wa_isWord : q_ms n_Wa_isWord = (1, 9, prog_11_method_15_code, 1, (some ClassFile.FieldType.boolean), 1, ⟨"PatternTrier$Walker", "isWord", "(I)Z"⟩) := rfl
theorem own_Wa_isWord : (q_ms n_Wa_isWord).2.1 = 9 := (mi_at mi_Wa_isWord).1
theorem nl_Wa_isWord : (q_ms n_Wa_isWord).2.2.2.1 = 1 := (mi_at mi_Wa_isWord).2.1
theorem rt_Wa_isWord : (q_ms n_Wa_isWord).2.2.2.2.1 = (some ClassFile.FieldType.boolean) := (mi_at mi_Wa_isWord).2.2.1
theorem vk_Wa_isWord : (q_ms n_Wa_isWord).1 = 1 ∧ (q_ms n_Wa_isWord).2.2.2.2.2.1 = 1 := ⟨(mi_at mi_Wa_isWord).2.2.2.1, (mi_at mi_Wa_isWord).2.2.2.2⟩
theorem mi_Wa_walkApart : q_ms n_Wa_walkApart = (0, 9, prog_11_method_17_code, 9, (some ClassFile.FieldType.boolean), 1, ⟨"PatternTrier$Walker", "walkApart", "(I)Z"⟩) := rfl
theorem own_Wa_walkApart : (q_ms n_Wa_walkApart).2.1 = 9 := (mi_at mi_Wa_walkApart).1
theorem nl_Wa_walkApart : (q_ms n_Wa_walkApart).2.2.2.1 = 9 := (mi_at mi_Wa_walkApart).2.1
theorem rt_Wa_walkApart : (q_ms n_Wa_walkApart).2.2.2.2.1 = (some ClassFile.FieldType.boolean) := (mi_at mi_Wa_walkApart).2.2.1
theorem vk_Wa_walkApart : (q_ms n_Wa_walkApart).1 = 0 ∧ (q_ms n_Wa_walkApart).2.1 = 9 ∧ (q_ms n_Wa_walkApart).2.2.2.2.2.1 = 1 := ⟨(mi_at mi_Wa_walkApart).2.2.2.1, (mi_at mi_Wa_walkApart).1, (mi_at mi_Wa_walkApart).2.2.2.2⟩
theorem mi_Pr_otherOf : q_ms n_Pr_otherOf = (0, 5, prog_7_method_10_code, 2, (some ClassFile.FieldType.int), 1, ⟨"PatternTrier$Program", "otherOf", "(I)I"⟩) := rfl
theorem own_Pr_otherOf : (q_ms n_Pr_otherOf).2.1 = 5 := (mi_at mi_Pr_otherOf).1
theorem nl_Pr_otherOf : (q_ms n_Pr_otherOf).2.2.2.1 = 2 := (mi_at mi_Pr_otherOf).2.1
theorem rt_Pr_otherOf : (q_ms n_Pr_otherOf).2.2.2.2.1 = (some ClassFile.FieldType.int) := (mi_at mi_Pr_otherOf).2.2.1
theorem vk_Pr_otherOf : (q_ms n_Pr_otherOf).1 = 0 ∧ (q_ms n_Pr_otherOf).2.1 = 5 ∧ (q_ms n_Pr_otherOf).2.2.2.2.2.1 = 1 := ⟨(mi_at mi_Pr_otherOf).2.2.2.1, (mi_at mi_Pr_otherOf).1, (mi_at mi_Pr_otherOf).2.2.2.2⟩
theorem mi_Pi_dropWays : q_ms n_Pi_dropWays = (0, 4, prog_6_method_11_code, 7, none, 1, ⟨"PatternTrier$Pile", "dropWays", "(I)V"⟩) := rfl
theorem own_Pi_dropWays : (q_ms n_Pi_dropWays).2.1 = 4 := (mi_at mi_Pi_dropWays).1
theorem nl_Pi_dropWays : (q_ms n_Pi_dropWays).2.2.2.1 = 7 := (mi_at mi_Pi_dropWays).2.1
theorem rt_Pi_dropWays : (q_ms n_Pi_dropWays).2.2.2.2.1 = none := (mi_at mi_Pi_dropWays).2.2.1
theorem vk_Pi_dropWays : (q_ms n_Pi_dropWays).1 = 0 ∧ (q_ms n_Pi_dropWays).2.1 = 4 ∧ (q_ms n_Pi_dropWays).2.2.2.2.2.1 = 1 := ⟨(mi_at mi_Pi_dropWays).2.2.2.1, (mi_at mi_Pi_dropWays).1, (mi_at mi_Pi_dropWays).2.2.2.2⟩
theorem mi_Pi_stepOf : q_ms n_Pi_stepOf = (1, 4, prog_6_method_4_code, 1, (some ClassFile.FieldType.int), 1, ⟨"PatternTrier$Pile", "stepOf", "(I)I"⟩) := rfl
theorem own_Pi_stepOf : (q_ms n_Pi_stepOf).2.1 = 4 := (mi_at mi_Pi_stepOf).1
theorem nl_Pi_stepOf : (q_ms n_Pi_stepOf).2.2.2.1 = 1 := (mi_at mi_Pi_stepOf).2.1
theorem rt_Pi_stepOf : (q_ms n_Pi_stepOf).2.2.2.2.1 = (some ClassFile.FieldType.int) := (mi_at mi_Pi_stepOf).2.2.1
theorem vk_Pi_stepOf : (q_ms n_Pi_stepOf).1 = 1 ∧ (q_ms n_Pi_stepOf).2.2.2.2.2.1 = 1 := ⟨(mi_at mi_Pi_stepOf).2.2.2.1, (mi_at mi_Pi_stepOf).2.2.2.2⟩
theorem mi_Pi_kindOf : q_ms n_Pi_kindOf = (1, 4, prog_6_method_3_code, 1, (some ClassFile.FieldType.int), 1, ⟨"PatternTrier$Pile", "kindOf", "(I)I"⟩) := rfl
theorem own_Pi_kindOf : (q_ms n_Pi_kindOf).2.1 = 4 := (mi_at mi_Pi_kindOf).1
theorem nl_Pi_kindOf : (q_ms n_Pi_kindOf).2.2.2.1 = 1 := (mi_at mi_Pi_kindOf).2.1
theorem rt_Pi_kindOf : (q_ms n_Pi_kindOf).2.2.2.2.1 = (some ClassFile.FieldType.int) := (mi_at mi_Pi_kindOf).2.2.1
theorem vk_Pi_kindOf : (q_ms n_Pi_kindOf).1 = 1 ∧ (q_ms n_Pi_kindOf).2.2.2.2.2.1 = 1 := ⟨(mi_at mi_Pi_kindOf).2.2.2.1, (mi_at mi_Pi_kindOf).2.2.2.2⟩
theorem mi_Wa_goBack : q_ms n_Wa_goBack = (0, 9, prog_11_method_18_code, 7, (some ClassFile.FieldType.boolean), 1, ⟨"PatternTrier$Walker", "goBack", "(I)Z"⟩) := rfl
theorem own_Wa_goBack : (q_ms n_Wa_goBack).2.1 = 9 := (mi_at mi_Wa_goBack).1
theorem nl_Wa_goBack : (q_ms n_Wa_goBack).2.2.2.1 = 7 := (mi_at mi_Wa_goBack).2.1
theorem rt_Wa_goBack : (q_ms n_Wa_goBack).2.2.2.2.1 = (some ClassFile.FieldType.boolean) := (mi_at mi_Wa_goBack).2.2.1
theorem vk_Wa_goBack : (q_ms n_Wa_goBack).1 = 0 ∧ (q_ms n_Wa_goBack).2.1 = 9 ∧ (q_ms n_Wa_goBack).2.2.2.2.2.1 = 1 := ⟨(mi_at mi_Wa_goBack).2.2.2.1, (mi_at mi_Wa_goBack).1, (mi_at mi_Wa_goBack).2.2.2.2⟩
theorem mi_Pi_pop : q_ms n_Pi_pop = (0, 4, prog_6_method_10_code, 1, (some ClassFile.FieldType.int), 0, ⟨"PatternTrier$Pile", "pop", "()I"⟩) := rfl
theorem own_Pi_pop : (q_ms n_Pi_pop).2.1 = 4 := (mi_at mi_Pi_pop).1
theorem nl_Pi_pop : (q_ms n_Pi_pop).2.2.2.1 = 1 := (mi_at mi_Pi_pop).2.1
theorem rt_Pi_pop : (q_ms n_Pi_pop).2.2.2.2.1 = (some ClassFile.FieldType.int) := (mi_at mi_Pi_pop).2.2.1
theorem vk_Pi_pop : (q_ms n_Pi_pop).1 = 0 ∧ (q_ms n_Pi_pop).2.1 = 4 ∧ (q_ms n_Pi_pop).2.2.2.2.2.1 = 0 := ⟨(mi_at mi_Pi_pop).2.2.2.1, (mi_at mi_Pi_pop).1, (mi_at mi_Pi_pop).2.2.2.2⟩
theorem mi_Pi_placeOf : q_ms n_Pi_placeOf = (1, 4, prog_6_method_6_code, 1, (some ClassFile.FieldType.int), 1, ⟨"PatternTrier$Pile", "placeOf", "(I)I"⟩) := rfl
theorem own_Pi_placeOf : (q_ms n_Pi_placeOf).2.1 = 4 := (mi_at mi_Pi_placeOf).1
theorem nl_Pi_placeOf : (q_ms n_Pi_placeOf).2.2.2.1 = 1 := (mi_at mi_Pi_placeOf).2.1
theorem rt_Pi_placeOf : (q_ms n_Pi_placeOf).2.2.2.2.1 = (some ClassFile.FieldType.int) := (mi_at mi_Pi_placeOf).2.2.1
theorem vk_Pi_placeOf : (q_ms n_Pi_placeOf).1 = 1 ∧ (q_ms n_Pi_placeOf).2.2.2.2.2.1 = 1 := ⟨(mi_at mi_Pi_placeOf).2.2.2.1, (mi_at mi_Pi_placeOf).2.2.2.2⟩
theorem mi_Pi_takenOf : q_ms n_Pi_takenOf = (1, 4, prog_6_method_5_code, 1, (some ClassFile.FieldType.int), 1, ⟨"PatternTrier$Pile", "takenOf", "(I)I"⟩) := rfl
theorem own_Pi_takenOf : (q_ms n_Pi_takenOf).2.1 = 4 := (mi_at mi_Pi_takenOf).1
theorem nl_Pi_takenOf : (q_ms n_Pi_takenOf).2.2.2.1 = 1 := (mi_at mi_Pi_takenOf).2.1
theorem rt_Pi_takenOf : (q_ms n_Pi_takenOf).2.2.2.2.1 = (some ClassFile.FieldType.int) := (mi_at mi_Pi_takenOf).2.2.1
theorem vk_Pi_takenOf : (q_ms n_Pi_takenOf).1 = 1 ∧ (q_ms n_Pi_takenOf).2.2.2.2.2.1 = 1 := ⟨(mi_at mi_Pi_takenOf).2.2.2.1, (mi_at mi_Pi_takenOf).2.2.2.2⟩
theorem mi_Fl_add : q_ms n_Fl_add = (0, 2, prog_4_method_4_code, 5, none, 2, ⟨"PatternTrier$Failures", "add", "(II)V"⟩) := rfl
theorem own_Fl_add : (q_ms n_Fl_add).2.1 = 2 := (mi_at mi_Fl_add).1
theorem nl_Fl_add : (q_ms n_Fl_add).2.2.2.1 = 5 := (mi_at mi_Fl_add).2.1
theorem rt_Fl_add : (q_ms n_Fl_add).2.2.2.2.1 = none := (mi_at mi_Fl_add).2.2.1
theorem vk_Fl_add : (q_ms n_Fl_add).1 = 0 ∧ (q_ms n_Fl_add).2.1 = 2 ∧ (q_ms n_Fl_add).2.2.2.2.2.1 = 2 := ⟨(mi_at mi_Fl_add).2.2.2.1, (mi_at mi_Fl_add).1, (mi_at mi_Fl_add).2.2.2.2⟩
theorem mi_Wa_copyMarks : q_ms n_Wa_copyMarks = (0, 9, prog_11_method_5_code, 2, none, 1, ⟨"PatternTrier$Walker", "copyMarks", "([I)V"⟩) := rfl
theorem own_Wa_copyMarks : (q_ms n_Wa_copyMarks).2.1 = 9 := (mi_at mi_Wa_copyMarks).1
theorem nl_Wa_copyMarks : (q_ms n_Wa_copyMarks).2.2.2.1 = 2 := (mi_at mi_Wa_copyMarks).2.1
theorem rt_Wa_copyMarks : (q_ms n_Wa_copyMarks).2.2.2.2.1 = none := (mi_at mi_Wa_copyMarks).2.2.1
theorem vk_Wa_copyMarks : (q_ms n_Wa_copyMarks).1 = 0 ∧ (q_ms n_Wa_copyMarks).2.1 = 9 ∧ (q_ms n_Wa_copyMarks).2.2.2.2.2.1 = 1 := ⟨(mi_at mi_Wa_copyMarks).2.2.2.1, (mi_at mi_Wa_copyMarks).1, (mi_at mi_Wa_copyMarks).2.2.2.2⟩
theorem mi_P_group : q_ms n_P_group = (0, 10, prog_1_method_7_code, 4, (some ClassFile.FieldType.int), 2, ⟨"PatternTrier", "group", "(II)I"⟩) := rfl
theorem own_P_group : (q_ms n_P_group).2.1 = 10 := (mi_at mi_P_group).1
theorem nl_P_group : (q_ms n_P_group).2.2.2.1 = 4 := (mi_at mi_P_group).2.1
theorem rt_P_group : (q_ms n_P_group).2.2.2.2.1 = (some ClassFile.FieldType.int) := (mi_at mi_P_group).2.2.1
theorem vk_P_group : (q_ms n_P_group).1 = 0 ∧ (q_ms n_P_group).2.1 = 10 ∧ (q_ms n_P_group).2.2.2.2.2.1 = 2 := ⟨(mi_at mi_P_group).2.2.2.1, (mi_at mi_P_group).1, (mi_at mi_P_group).2.2.2.2⟩
theorem mi_P_needPart : q_ms n_P_needPart = (1, 10, prog_1_method_19_code, 1, none, 1, ⟨"PatternTrier", "needPart", "(I)V"⟩) := rfl
theorem own_P_needPart : (q_ms n_P_needPart).2.1 = 10 := (mi_at mi_P_needPart).1
theorem nl_P_needPart : (q_ms n_P_needPart).2.2.2.1 = 1 := (mi_at mi_P_needPart).2.1
theorem rt_P_needPart : (q_ms n_P_needPart).2.2.2.2.1 = none := (mi_at mi_P_needPart).2.2.1
theorem vk_P_needPart : (q_ms n_P_needPart).1 = 1 ∧ (q_ms n_P_needPart).2.2.2.2.2.1 = 1 := ⟨(mi_at mi_P_needPart).2.2.2.1, (mi_at mi_P_needPart).2.2.2.2⟩
theorem mi_P_find : q_ms n_P_find = (0, 10, prog_1_method_8_code, 7, (some ClassFile.FieldType.int), 2, ⟨"PatternTrier", "find", "(II)I"⟩) := rfl
theorem own_P_find : (q_ms n_P_find).2.1 = 10 := (mi_at mi_P_find).1
theorem nl_P_find : (q_ms n_P_find).2.2.2.1 = 7 := (mi_at mi_P_find).2.1
theorem rt_P_find : (q_ms n_P_find).2.2.2.2.1 = (some ClassFile.FieldType.int) := (mi_at mi_P_find).2.2.1
theorem vk_P_find : (q_ms n_P_find).1 = 0 ∧ (q_ms n_P_find).2.1 = 10 ∧ (q_ms n_P_find).2.2.2.2.2.1 = 2 := ⟨(mi_at mi_P_find).2.2.2.1, (mi_at mi_P_find).1, (mi_at mi_P_find).2.2.2.2⟩
theorem mi_P_needShort : q_ms n_P_needShort = (1, 10, prog_1_method_21_code, 1, none, 1, ⟨"PatternTrier", "needShort", "(LPatternTrier$Bytes;)V"⟩) := rfl
theorem own_P_needShort : (q_ms n_P_needShort).2.1 = 10 := (mi_at mi_P_needShort).1
theorem nl_P_needShort : (q_ms n_P_needShort).2.2.2.1 = 1 := (mi_at mi_P_needShort).2.1
theorem rt_P_needShort : (q_ms n_P_needShort).2.2.2.2.1 = none := (mi_at mi_P_needShort).2.2.1
theorem vk_P_needShort : (q_ms n_P_needShort).1 = 1 ∧ (q_ms n_P_needShort).2.2.2.2.2.1 = 1 := ⟨(mi_at mi_P_needShort).2.2.2.1, (mi_at mi_P_needShort).2.2.2.2⟩
theorem mi_Fo_clear : q_ms n_Fo_clear = (0, 3, prog_5_method_2_code, 1, none, 0, ⟨"PatternTrier$Found", "clear", "()V"⟩) := rfl
theorem own_Fo_clear : (q_ms n_Fo_clear).2.1 = 3 := (mi_at mi_Fo_clear).1
theorem nl_Fo_clear : (q_ms n_Fo_clear).2.2.2.1 = 1 := (mi_at mi_Fo_clear).2.1
theorem rt_Fo_clear : (q_ms n_Fo_clear).2.2.2.2.1 = none := (mi_at mi_Fo_clear).2.2.1
theorem vk_Fo_clear : (q_ms n_Fo_clear).1 = 0 ∧ (q_ms n_Fo_clear).2.1 = 3 ∧ (q_ms n_Fo_clear).2.2.2.2.2.1 = 0 := ⟨(mi_at mi_Fo_clear).2.2.2.1, (mi_at mi_Fo_clear).1, (mi_at mi_Fo_clear).2.2.2.2⟩
theorem mi_Fo_add : q_ms n_Fo_add = (0, 3, prog_5_method_4_code, 3, none, 2, ⟨"PatternTrier$Found", "add", "(II)V"⟩) := rfl
theorem own_Fo_add : (q_ms n_Fo_add).2.1 = 3 := (mi_at mi_Fo_add).1
theorem nl_Fo_add : (q_ms n_Fo_add).2.2.2.1 = 3 := (mi_at mi_Fo_add).2.1
theorem rt_Fo_add : (q_ms n_Fo_add).2.2.2.2.1 = none := (mi_at mi_Fo_add).2.2.1
theorem vk_Fo_add : (q_ms n_Fo_add).1 = 0 ∧ (q_ms n_Fo_add).2.1 = 3 ∧ (q_ms n_Fo_add).2.2.2.2.2.1 = 2 := ⟨(mi_at mi_Fo_add).2.2.2.1, (mi_at mi_Fo_add).1, (mi_at mi_Fo_add).2.2.2.2⟩
theorem mi_Wa_placeBehind : q_ms n_Wa_placeBehind = (0, 9, prog_11_method_6_code, 1, (some ClassFile.FieldType.int), 0, ⟨"PatternTrier$Walker", "placeBehind", "()I"⟩) := rfl
theorem own_Wa_placeBehind : (q_ms n_Wa_placeBehind).2.1 = 9 := (mi_at mi_Wa_placeBehind).1
theorem nl_Wa_placeBehind : (q_ms n_Wa_placeBehind).2.2.2.1 = 1 := (mi_at mi_Wa_placeBehind).2.1
theorem rt_Wa_placeBehind : (q_ms n_Wa_placeBehind).2.2.2.2.1 = (some ClassFile.FieldType.int) := (mi_at mi_Wa_placeBehind).2.2.1
theorem vk_Wa_placeBehind : (q_ms n_Wa_placeBehind).1 = 0 ∧ (q_ms n_Wa_placeBehind).2.1 = 9 ∧ (q_ms n_Wa_placeBehind).2.2.2.2.2.1 = 0 := ⟨(mi_at mi_Wa_placeBehind).2.2.2.1, (mi_at mi_Wa_placeBehind).1, (mi_at mi_Wa_placeBehind).2.2.2.2⟩
theorem mi_Fo_amount : q_ms n_Fo_amount = (0, 3, prog_5_method_3_code, 1, (some ClassFile.FieldType.int), 0, ⟨"PatternTrier$Found", "amount", "()I"⟩) := rfl
theorem own_Fo_amount : (q_ms n_Fo_amount).2.1 = 3 := (mi_at mi_Fo_amount).1
theorem nl_Fo_amount : (q_ms n_Fo_amount).2.2.2.1 = 1 := (mi_at mi_Fo_amount).2.1
theorem rt_Fo_amount : (q_ms n_Fo_amount).2.2.2.2.1 = (some ClassFile.FieldType.int) := (mi_at mi_Fo_amount).2.2.1
theorem vk_Fo_amount : (q_ms n_Fo_amount).1 = 0 ∧ (q_ms n_Fo_amount).2.1 = 3 ∧ (q_ms n_Fo_amount).2.2.2.2.2.1 = 0 := ⟨(mi_at mi_Fo_amount).2.2.2.1, (mi_at mi_Fo_amount).1, (mi_at mi_Fo_amount).2.2.2.2⟩
theorem mi_P_found : q_ms n_P_found = (0, 10, prog_1_method_9_code, 3, (some ClassFile.FieldType.int), 2, ⟨"PatternTrier", "found", "(II)I"⟩) := rfl
theorem own_P_found : (q_ms n_P_found).2.1 = 10 := (mi_at mi_P_found).1
theorem nl_P_found : (q_ms n_P_found).2.2.2.1 = 3 := (mi_at mi_P_found).2.1
theorem rt_P_found : (q_ms n_P_found).2.2.2.2.1 = (some ClassFile.FieldType.int) := (mi_at mi_P_found).2.2.1
theorem vk_P_found : (q_ms n_P_found).1 = 0 ∧ (q_ms n_P_found).2.1 = 10 ∧ (q_ms n_P_found).2.2.2.2.2.1 = 2 := ⟨(mi_at mi_P_found).2.2.2.1, (mi_at mi_P_found).1, (mi_at mi_P_found).2.2.2.2⟩
theorem mi_Fo_bound : q_ms n_Fo_bound = (0, 3, prog_5_method_5_code, 3, (some ClassFile.FieldType.int), 2, ⟨"PatternTrier$Found", "bound", "(II)I"⟩) := rfl
theorem own_Fo_bound : (q_ms n_Fo_bound).2.1 = 3 := (mi_at mi_Fo_bound).1
theorem nl_Fo_bound : (q_ms n_Fo_bound).2.2.2.1 = 3 := (mi_at mi_Fo_bound).2.1
theorem rt_Fo_bound : (q_ms n_Fo_bound).2.2.2.2.1 = (some ClassFile.FieldType.int) := (mi_at mi_Fo_bound).2.2.1
theorem vk_Fo_bound : (q_ms n_Fo_bound).1 = 0 ∧ (q_ms n_Fo_bound).2.1 = 3 ∧ (q_ms n_Fo_bound).2.2.2.2.2.1 = 2 := ⟨(mi_at mi_Fo_bound).2.2.2.1, (mi_at mi_Fo_bound).1, (mi_at mi_Fo_bound).2.2.2.2⟩
theorem mi_P_replace : q_ms n_P_replace = (0, 10, prog_1_method_10_code, 6, (some ClassFile.FieldType.int), 2, ⟨"PatternTrier", "replace", "(II)I"⟩) := rfl
theorem own_P_replace : (q_ms n_P_replace).2.1 = 10 := (mi_at mi_P_replace).1
theorem nl_P_replace : (q_ms n_P_replace).2.2.2.1 = 6 := (mi_at mi_P_replace).2.1
theorem rt_P_replace : (q_ms n_P_replace).2.2.2.2.1 = (some ClassFile.FieldType.int) := (mi_at mi_P_replace).2.2.1
theorem vk_P_replace : (q_ms n_P_replace).1 = 0 ∧ (q_ms n_P_replace).2.1 = 10 ∧ (q_ms n_P_replace).2.2.2.2.2.1 = 2 := ⟨(mi_at mi_P_replace).2.2.2.1, (mi_at mi_P_replace).1, (mi_at mi_P_replace).2.2.2.2⟩
theorem mi_P_wrongPlace : q_ms n_P_wrongPlace = (1, 10, prog_1_method_22_code, 3, (some ClassFile.FieldType.int), 1, ⟨"PatternTrier", "wrongPlace", "(LPatternTrier$Bytes;)I"⟩) := rfl
theorem own_P_wrongPlace : (q_ms n_P_wrongPlace).2.1 = 10 := (mi_at mi_P_wrongPlace).1
theorem nl_P_wrongPlace : (q_ms n_P_wrongPlace).2.2.2.1 = 3 := (mi_at mi_P_wrongPlace).2.1
theorem rt_P_wrongPlace : (q_ms n_P_wrongPlace).2.2.2.2.1 = (some ClassFile.FieldType.int) := (mi_at mi_P_wrongPlace).2.2.1
theorem vk_P_wrongPlace : (q_ms n_P_wrongPlace).1 = 1 ∧ (q_ms n_P_wrongPlace).2.2.2.2.2.1 = 1 := ⟨(mi_at mi_P_wrongPlace).2.2.2.1, (mi_at mi_P_wrongPlace).2.2.2.2⟩
theorem mi_P_isDigit_IZn : q_ms n_P_isDigit_IZn = (1, 10, prog_1_method_26_code, 1, (some ClassFile.FieldType.boolean), 1, ⟨"PatternTrier", "isDigit", "(I)Z"⟩) := rfl
theorem own_P_isDigit_IZn : (q_ms n_P_isDigit_IZn).2.1 = 10 := (mi_at mi_P_isDigit_IZn).1
theorem nl_P_isDigit_IZn : (q_ms n_P_isDigit_IZn).2.2.2.1 = 1 := (mi_at mi_P_isDigit_IZn).2.1
theorem rt_P_isDigit_IZn : (q_ms n_P_isDigit_IZn).2.2.2.2.1 = (some ClassFile.FieldType.boolean) := (mi_at mi_P_isDigit_IZn).2.2.1
theorem vk_P_isDigit_IZn : (q_ms n_P_isDigit_IZn).1 = 1 ∧ (q_ms n_P_isDigit_IZn).2.2.2.2.2.1 = 1 := ⟨(mi_at mi_P_isDigit_IZn).2.2.2.1, (mi_at mi_P_isDigit_IZn).2.2.2.2⟩
theorem mi_P_writeReplaced : q_ms n_P_writeReplaced = (0, 10, prog_1_method_23_code, 8, (some ClassFile.FieldType.boolean), 3, ⟨"PatternTrier", "writeReplaced", "(LPatternTrier$Program;LPatternTrier$Bytes;LPatternTrier$Bytes;)Z"⟩) := rfl
theorem own_P_writeReplaced : (q_ms n_P_writeReplaced).2.1 = 10 := (mi_at mi_P_writeReplaced).1
theorem nl_P_writeReplaced : (q_ms n_P_writeReplaced).2.2.2.1 = 8 := (mi_at mi_P_writeReplaced).2.1
theorem rt_P_writeReplaced : (q_ms n_P_writeReplaced).2.2.2.2.1 = (some ClassFile.FieldType.boolean) := (mi_at mi_P_writeReplaced).2.2.1
theorem vk_P_writeReplaced : (q_ms n_P_writeReplaced).1 = 0 ∧ (q_ms n_P_writeReplaced).2.1 = 10 ∧ (q_ms n_P_writeReplaced).2.2.2.2.2.1 = 3 := ⟨(mi_at mi_P_writeReplaced).2.2.2.1, (mi_at mi_P_writeReplaced).1, (mi_at mi_P_writeReplaced).2.2.2.2⟩
theorem mi_P_writeModel : q_ms n_P_writeModel = (0, 10, prog_1_method_24_code, 6, (some ClassFile.FieldType.boolean), 2, ⟨"PatternTrier", "writeModel", "(LPatternTrier$Bytes;LPatternTrier$Bytes;)Z"⟩) := rfl
theorem own_P_writeModel : (q_ms n_P_writeModel).2.1 = 10 := (mi_at mi_P_writeModel).1
theorem nl_P_writeModel : (q_ms n_P_writeModel).2.2.2.1 = 6 := (mi_at mi_P_writeModel).2.1
theorem rt_P_writeModel : (q_ms n_P_writeModel).2.2.2.2.1 = (some ClassFile.FieldType.boolean) := (mi_at mi_P_writeModel).2.2.1
theorem vk_P_writeModel : (q_ms n_P_writeModel).1 = 0 ∧ (q_ms n_P_writeModel).2.1 = 10 ∧ (q_ms n_P_writeModel).2.2.2.2.2.1 = 2 := ⟨(mi_at mi_P_writeModel).2.2.2.1, (mi_at mi_P_writeModel).1, (mi_at mi_P_writeModel).2.2.2.2⟩
theorem mi_P_writeSign : q_ms n_P_writeSign = (0, 10, prog_1_method_25_code, 4, (some ClassFile.FieldType.boolean), 2, ⟨"PatternTrier", "writeSign", "(LPatternTrier$Bytes;I)Z"⟩) := rfl
theorem own_P_writeSign : (q_ms n_P_writeSign).2.1 = 10 := (mi_at mi_P_writeSign).1
theorem nl_P_writeSign : (q_ms n_P_writeSign).2.2.2.1 = 4 := (mi_at mi_P_writeSign).2.1
theorem rt_P_writeSign : (q_ms n_P_writeSign).2.2.2.2.1 = (some ClassFile.FieldType.boolean) := (mi_at mi_P_writeSign).2.2.1
theorem vk_P_writeSign : (q_ms n_P_writeSign).1 = 0 ∧ (q_ms n_P_writeSign).2.1 = 10 ∧ (q_ms n_P_writeSign).2.2.2.2.2.1 = 2 := ⟨(mi_at mi_P_writeSign).2.2.2.1, (mi_at mi_P_writeSign).1, (mi_at mi_P_writeSign).2.2.2.2⟩
theorem mi_P_swapFound : q_ms n_P_swapFound = (0, 10, prog_1_method_16_code, 2, none, 0, ⟨"PatternTrier", "swapFound", "()V"⟩) := rfl
theorem own_P_swapFound : (q_ms n_P_swapFound).2.1 = 10 := (mi_at mi_P_swapFound).1
theorem nl_P_swapFound : (q_ms n_P_swapFound).2.2.2.1 = 2 := (mi_at mi_P_swapFound).2.1
theorem rt_P_swapFound : (q_ms n_P_swapFound).2.2.2.2.1 = none := (mi_at mi_P_swapFound).2.2.1
theorem vk_P_swapFound : (q_ms n_P_swapFound).1 = 0 ∧ (q_ms n_P_swapFound).2.1 = 10 ∧ (q_ms n_P_swapFound).2.2.2.2.2.1 = 0 := ⟨(mi_at mi_P_swapFound).2.2.2.1, (mi_at mi_P_swapFound).1, (mi_at mi_P_swapFound).2.2.2.2⟩
theorem mi_P_span : q_ms n_P_span = (0, 10, prog_1_method_11_code, 7, (some ClassFile.FieldType.int), 3, ⟨"PatternTrier", "span", "(III)I"⟩) := rfl
theorem own_P_span : (q_ms n_P_span).2.1 = 10 := (mi_at mi_P_span).1
theorem nl_P_span : (q_ms n_P_span).2.2.2.1 = 7 := (mi_at mi_P_span).2.1
theorem rt_P_span : (q_ms n_P_span).2.2.2.2.1 = (some ClassFile.FieldType.int) := (mi_at mi_P_span).2.2.1
theorem vk_P_span : (q_ms n_P_span).1 = 0 ∧ (q_ms n_P_span).2.1 = 10 ∧ (q_ms n_P_span).2.2.2.2.2.1 = 3 := ⟨(mi_at mi_P_span).2.2.2.1, (mi_at mi_P_span).1, (mi_at mi_P_span).2.2.2.2⟩
theorem mi_Pr_onlySet : q_ms n_Pr_onlySet = (0, 5, prog_7_method_17_code, 1, (some ClassFile.FieldType.int), 0, ⟨"PatternTrier$Program", "onlySet", "()I"⟩) := rfl
theorem own_Pr_onlySet : (q_ms n_Pr_onlySet).2.1 = 5 := (mi_at mi_Pr_onlySet).1
theorem nl_Pr_onlySet : (q_ms n_Pr_onlySet).2.2.2.1 = 1 := (mi_at mi_Pr_onlySet).2.1
theorem rt_Pr_onlySet : (q_ms n_Pr_onlySet).2.2.2.2.1 = (some ClassFile.FieldType.int) := (mi_at mi_Pr_onlySet).2.2.1
theorem vk_Pr_onlySet : (q_ms n_Pr_onlySet).1 = 0 ∧ (q_ms n_Pr_onlySet).2.1 = 5 ∧ (q_ms n_Pr_onlySet).2.2.2.2.2.1 = 0 := ⟨(mi_at mi_Pr_onlySet).2.2.2.1, (mi_at mi_Pr_onlySet).1, (mi_at mi_Pr_onlySet).2.2.2.2⟩
theorem mi_P_word : q_ms n_P_word = (0, 10, prog_1_method_12_code, 7, (some ClassFile.FieldType.long), 2, ⟨"PatternTrier", "word", "(II)J"⟩) := rfl
theorem own_P_word : (q_ms n_P_word).2.1 = 10 := (mi_at mi_P_word).1
theorem nl_P_word : (q_ms n_P_word).2.2.2.1 = 7 := (mi_at mi_P_word).2.1
theorem rt_P_word : (q_ms n_P_word).2.2.2.2.1 = (some ClassFile.FieldType.long) := (mi_at mi_P_word).2.2.1
theorem vk_P_word : (q_ms n_P_word).1 = 0 ∧ (q_ms n_P_word).2.1 = 10 ∧ (q_ms n_P_word).2.2.2.2.2.1 = 2 := ⟨(mi_at mi_P_word).2.2.2.1, (mi_at mi_P_word).1, (mi_at mi_P_word).2.2.2.2⟩
theorem mi_P_count : q_ms n_P_count = (0, 10, prog_1_method_13_code, 2, (some ClassFile.FieldType.int), 1, ⟨"PatternTrier", "count", "(I)I"⟩) := rfl
theorem own_P_count : (q_ms n_P_count).2.1 = 10 := (mi_at mi_P_count).1
theorem nl_P_count : (q_ms n_P_count).2.2.2.1 = 2 := (mi_at mi_P_count).2.1
theorem rt_P_count : (q_ms n_P_count).2.2.2.2.1 = (some ClassFile.FieldType.int) := (mi_at mi_P_count).2.2.1
theorem vk_P_count : (q_ms n_P_count).1 = 0 ∧ (q_ms n_P_count).2.1 = 10 ∧ (q_ms n_P_count).2.2.2.2.2.1 = 1 := ⟨(mi_at mi_P_count).2.2.2.1, (mi_at mi_P_count).1, (mi_at mi_P_count).2.2.2.2⟩
theorem mi_Pr_groups : q_ms n_Pr_groups = (0, 5, prog_7_method_16_code, 1, (some ClassFile.FieldType.int), 0, ⟨"PatternTrier$Program", "groups", "()I"⟩) := rfl
theorem own_Pr_groups : (q_ms n_Pr_groups).2.1 = 5 := (mi_at mi_Pr_groups).1
theorem nl_Pr_groups : (q_ms n_Pr_groups).2.2.2.1 = 1 := (mi_at mi_Pr_groups).2.1
theorem rt_Pr_groups : (q_ms n_Pr_groups).2.2.2.2.1 = (some ClassFile.FieldType.int) := (mi_at mi_Pr_groups).2.2.1
theorem vk_Pr_groups : (q_ms n_Pr_groups).1 = 0 ∧ (q_ms n_Pr_groups).2.1 = 5 ∧ (q_ms n_Pr_groups).2.2.2.2.2.1 = 0 := ⟨(mi_at mi_Pr_groups).2.2.2.1, (mi_at mi_Pr_groups).1, (mi_at mi_Pr_groups).2.2.2.2⟩
def cfl : List (Nat × Nat × Nat × Nat) := [(0, 9, 0, 0), (0, 15, 0, 1), (1, 15, 1, 0), (1, 21, 1, 1), (2, 9, 2, 0), (3, 9, 3, 0), (3, 15, 3, 1), (4, 9, 4, 0), (4, 13, 4, 1), (5, 11, 5, 0), (5, 15, 5, 1), (5, 18, 5, 2), (5, 21, 5, 3), (5, 24, 5, 4), (5, 27, 5, 5), (5, 33, 5, 6), (5, 37, 5, 10), (5, 41, 5, 11), (5, 44, 5, 12), (5, 47, 5, 7), (5, 50, 5, 8), (5, 61, 5, 9), (6, 9, 6, 0), (6, 15, 6, 1), (6, 19, 6, 3), (6, 28, 6, 2), (6, 31, 6, 5), (6, 34, 6, 6), (6, 37, 6, 7), (6, 44, 6, 4), (7, 9, 7, 0), (7, 15, 7, 1), (8, 11, 8, 0), (8, 15, 8, 1), (8, 18, 8, 2), (8, 21, 8, 3), (8, 24, 8, 4), (8, 27, 8, 5), (8, 30, 8, 6), (8, 36, 8, 7), (8, 40, 8, 8), (9, 12, 9, 0), (9, 21, 9, 1), (9, 25, 9, 2), (9, 29, 9, 3), (9, 33, 9, 4), (9, 37, 9, 5), (9, 92, 9, 6), (9, 96, 9, 7), (9, 99, 9, 8), (10, 12, 10, 0), (10, 18, 10, 1), (10, 25, 10, 2), (10, 35, 10, 8), (10, 39, 10, 9), (10, 42, 10, 7), (10, 48, 10, 3), (10, 57, 10, 4), (10, 66, 10, 5), (10, 75, 10, 6), (10, 82, 10, 10), (10, 86, 10, 11), (10, 89, 10, 12)]
set_option maxRecDepth 100000 in
theorem cfl_ok : cfl.all (fun e => decide (q_fld e.1 e.2.1 = some (e.2.2.1, e.2.2.2))) = true := by decide +kernel
theorem cf_at (n : Nat) {own idx K j : Nat} (h : cfl[n]? = some (own, idx, K, j)) : q_fld own idx = some (K, j) := of_decide_eq_true (List.all_eq_true.mp cfl_ok _ (List.mem_of_getElem? h))
def cml : List (Nat × Nat × Nat) := [(0, 19, 63), (0, 24, 65), (0, 28, 80), (0, 32, 66), (0, 38, 67), (0, 41, 79), (0, 44, 64), (0, 47, 74), (0, 51, 68), (0, 54, 54), (0, 57, 69), (0, 60, 77), (0, 63, 78), (0, 66, 70), (0, 69, 71), (0, 72, 76), (0, 75, 75), (0, 78, 72), (0, 81, 73), (1, 25, 13), (1, 35, 87), (2, 23, 93), (2, 29, 115), (2, 33, 37), (2, 39, 39), (3, 19, 39), (3, 23, 37), (4, 18, 118), (4, 24, 37), (4, 30, 127), (4, 34, 128), (4, 37, 39), (5, 53, 64), (5, 57, 39), (5, 64, 41), (5, 69, 81), (5, 73, 36), (5, 77, 82), (5, 79, 110), (6, 23, 23), (6, 40, 25), (6, 47, 28), (6, 50, 35), (6, 54, 16), (6, 60, 29), (6, 62, 26), (6, 65, 36), (6, 68, 27), (6, 72, 59), (6, 76, 38), (6, 80, 30), (6, 84, 31), (6, 87, 32), (6, 90, 53), (6, 93, 54), (6, 96, 55), (6, 100, 33), (6, 103, 40), (6, 106, 51), (6, 109, 52), (6, 112, 45), (6, 115, 47), (6, 118, 48), (6, 121, 41), (6, 125, 42), (6, 130, 46), (6, 133, 43), (6, 136, 50), (6, 139, 44), (6, 142, 49), (6, 146, 34), (6, 149, 56), (6, 152, 57), (6, 155, 58), (7, 19, 39), (7, 23, 37), (8, 44, 24), (8, 47, 39), (8, 57, 36), (8, 61, 38), (8, 65, 37), (8, 69, 66), (8, 72, 79), (8, 75, 54), (8, 78, 70), (9, 41, 91), (9, 47, 16), (9, 52, 92), (9, 56, 4), (9, 62, 98), (9, 64, 99), (9, 67, 100), (9, 71, 39), (9, 87, 121), (9, 91, 101), (9, 103, 102), (9, 107, 129), (9, 110, 103), (9, 113, 104), (9, 116, 29), (9, 119, 105), (9, 123, 109), (9, 127, 111), (9, 130, 119), (9, 133, 120), (9, 136, 107), (9, 139, 122), (9, 142, 124), (9, 145, 108), (9, 148, 106), (9, 151, 112), (9, 154, 114), (9, 157, 116), (9, 161, 117), (9, 164, 123), (9, 167, 47), (9, 170, 48), (9, 173, 113), (9, 176, 125), (9, 179, 126), (9, 182, 130), (9, 185, 127), (9, 188, 131), (9, 191, 132), (9, 194, 128), (9, 195, 133), (10, 93, 13), (10, 104, 14), (10, 107, 16), (10, 115, 18), (10, 118, 20), (10, 122, 21), (10, 126, 22), (10, 135, 60), (10, 138, 36), (10, 144, 61), (10, 146, 62), (10, 150, 83), (10, 153, 85), (10, 159, 86), (10, 165, 89), (10, 171, 90), (10, 175, 97), (10, 179, 134), (10, 183, 121), (10, 188, 136), (10, 191, 138), (10, 194, 139), (10, 197, 140), (10, 201, 141), (10, 204, 142), (10, 209, 144), (10, 213, 146), (10, 218, 148), (10, 227, 151), (10, 232, 153), (10, 240, 29), (10, 243, 109), (10, 253, 156), (10, 256, 15), (10, 272, 147), (10, 275, 87), (10, 279, 149), (10, 283, 150), (13, 13, 94)]
set_option maxRecDepth 100000 in
theorem cml_ok : cml.all (fun e => decide (q_mth e.1 e.2.1 = some e.2.2)) = true := by decide +kernel
theorem cm_at (n : Nat) {own idx j : Nat} (h : cml[n]? = some (own, idx, j)) : q_mth own idx = some j := of_decide_eq_true (List.all_eq_true.mp cml_ok _ (List.mem_of_getElem? h))
def csl : List (Nat × Nat) := [(2, 23), (2, 33), (2, 39), (3, 19), (3, 23), (4, 18), (4, 24), (4, 30), (4, 34), (4, 37), (5, 57), (6, 80), (6, 90), (6, 112), (6, 115), (6, 118), (7, 19), (7, 23), (8, 47), (8, 65), (9, 56), (9, 71), (9, 157), (9, 164), (9, 167), (9, 170), (9, 185), (9, 188), (9, 191), (9, 194), (10, 165), (10, 188), (10, 191), (10, 213), (10, 272), (13, 13)]
set_option maxRecDepth 100000 in
theorem csl_ok : csl.all (fun e => decide (q_mm e.1 e.2 = none) && decide (q_cpy e.1 e.2 = false)) = true := by decide +kernel
theorem cs_at (n : Nat) {own idx : Nat} (h : csl[n]? = some (own, idx)) : q_mm own idx = none ∧ q_cpy own idx = false := by
  have := List.all_eq_true.mp csl_ok _ (List.mem_of_getElem? h)
  simpa using this
theorem mem_97 {k : Nat} {st : List Value} {h : qH} (ho : (q_ms k).2.1 = 10) : q_mem (q_ms k).2.1 ((q_ms k).1 == 2) (.new 97) st h = none := by
  show q_newo (q_ms k).2.1 97 st h = none
  unfold q_newo
  rw [ho, show q_cls 10 97 = none by decide +kernel]
theorem mem_110 {k : Nat} {st : List Value} {h : qH} (ho : (q_ms k).2.1 = 10) : q_mem (q_ms k).2.1 ((q_ms k).1 == 2) (.new 110) st h = none := by
  show q_newo (q_ms k).2.1 110 st h = none
  unfold q_newo
  rw [ho, show q_cls 10 110 = none by decide +kernel]
theorem mem_130 {k : Nat} {st : List Value} {h : qH} (ho : (q_ms k).2.1 = 10) : q_mem (q_ms k).2.1 ((q_ms k).1 == 2) (.new 130) st h = none := by
  show q_newo (q_ms k).2.1 130 st h = none
  unfold q_newo
  rw [ho, show q_cls 10 130 = none by decide +kernel]
theorem mem_222 {k : Nat} {st : List Value} {h : qH} (ho : (q_ms k).2.1 = 10) : q_mem (q_ms k).2.1 ((q_ms k).1 == 2) (.new 222) st h = none := by
  show q_newo (q_ms k).2.1 222 st h = none
  unfold q_newo
  rw [ho, show q_cls 10 222 = none by decide +kernel]
theorem mem_235 {k : Nat} {st : List Value} {h : qH} (ho : (q_ms k).2.1 = 10) : q_mem (q_ms k).2.1 ((q_ms k).1 == 2) (.new 235) st h = none := by
  show q_newo (q_ms k).2.1 235 st h = none
  unfold q_newo
  rw [ho, show q_cls 10 235 = none by decide +kernel]
theorem mem_265 {k : Nat} {st : List Value} {h : qH} (ho : (q_ms k).2.1 = 10) : q_mem (q_ms k).2.1 ((q_ms k).1 == 2) (.new 265) st h = none := by
  show q_newo (q_ms k).2.1 265 st h = none
  unfold q_newo
  rw [ho, show q_cls 10 265 = none by decide +kernel]
