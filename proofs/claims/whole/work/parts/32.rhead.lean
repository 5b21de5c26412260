/-! the reference's methods: numbers, tables (written by wip/whole/gen_ref.py out of the printed listing and part 15) -/
abbrev k_thrown : Nat := 158
abbrev k_feed : Nat := 159
abbrev k_refuse : Nat := 160
abbrev k_four : Nat := 161
abbrev k_end : Nat := 162
abbrev k_in : Nat := 163
abbrev k_pattern : Nat := 164
abbrev k_take : Nat := 165
abbrev k_readPattern : Nat := 166
abbrev k_opens : Nat := 167
abbrev k_newNode : Nat := 168
abbrev k_signAt : Nat := 169
abbrev k_closed : Nat := 170
abbrev k_both : Nat := 171
abbrev k_bracket : Nat := 172
abbrev k_wrong : Nat := 173
abbrev k_close : Nat := 174
abbrev k_quantified : Nat := 175
abbrev k_number : Nat := 176
abbrev k_joins : Nat := 177
abbrev k_atom : Nat := 178
abbrev k_single : Nat := 179
abbrev k_newSet : Nat := 180
abbrev k_include : Nat := 181
abbrev k_escape : Nat := 182
abbrev k_isLetterOfKind : Nat := 183
abbrev k_isKind : Nat := 184
abbrev k_isWord : Nat := 185
abbrev k_isBlank : Nat := 186
abbrev k_many : Nat := 187
abbrev k_text : Nat := 188
abbrev k_match : Nat := 189
abbrev k_prepare : Nat := 190
abbrev k_again : Nat := 191
abbrev k_compile : Nat := 192
abbrev k_later : Nat := 193
abbrev k_nodeOf : Nat := 194
abbrev k_emit : Nat := 195
abbrev k_split : Nat := 196
abbrev k_maybe : Nat := 197
abbrev k_newSearch : Nat := 198
abbrev k_clearNotes : Nat := 199
abbrev k_tryAt : Nat := 200
abbrev k_go : Nat := 201
abbrev k_push : Nat := 202
abbrev k_restored : Nat := 203
abbrev k_one : Nat := 204
abbrev k_wasHere : Nat := 205
abbrev k_byteAt : Nat := 206
abbrev k_has : Nat := 207
abbrev k_before : Nat := 208
abbrev k_isEdge : Nat := 209
abbrev k_asked : Nat := 210
abbrev k_sub : Nat := 211
abbrev k_group : Nat := 212
abbrev k_find : Nat := 213
abbrev k_nextMatch : Nat := 214
abbrev k_behindLast : Nat := 215
abbrev k_keepFound : Nat := 216
abbrev k_found : Nat := 217
abbrev k_replace : Nat := 218
abbrev k_say : Nat := 219
abbrev k_substitute : Nat := 220
abbrev k_span : Nat := 221
abbrev k_alone : Nat := 222
abbrev k_word : Nat := 223
abbrev k_count : Nat := 224
theorem mi_at {k : Nat} {M : qM} (h : q_ms k = M) : (q_ms k).2.1 = M.2.1 ∧ (q_ms k).2.2.2.1 = M.2.2.2.1 ∧ (q_ms k).2.2.2.2.1 = M.2.2.2.2.1 ∧ (q_ms k).1 = M.1 ∧ (q_ms k).2.2.2.2.2.1 = M.2.2.2.2.2.1 := by rw [h]; exact ⟨rfl, rfl, rfl, rfl, rfl⟩
theorem mi_thrown : q_ms k_thrown = (0, 11, prog_13_method_2_code, 1, (some ClassFile.FieldType.int), 0, ⟨"PatternTrierModel", "thrown", "()I"⟩) := rfl
theorem own_thrown : (q_ms k_thrown).2.1 = 11 := (mi_at mi_thrown).1
theorem nl_thrown : (q_ms k_thrown).2.2.2.1 = 1 := (mi_at mi_thrown).2.1
theorem rt_thrown : (q_ms k_thrown).2.2.2.2.1 = (some ClassFile.FieldType.int) := (mi_at mi_thrown).2.2.1
theorem vk_thrown : (q_ms k_thrown).1 = 0 ∧ (q_ms k_thrown).2.1 = 11 ∧ (q_ms k_thrown).2.2.2.2.2.1 = 0 := ⟨(mi_at mi_thrown).2.2.2.1, (mi_at mi_thrown).1, (mi_at mi_thrown).2.2.2.2⟩
theorem mi_feed : q_ms k_feed = (0, 11, prog_13_method_6_code, 6, (some ClassFile.FieldType.int), 5, ⟨"PatternTrierModel", "feed", "(IIIII)I"⟩) := rfl
theorem own_feed : (q_ms k_feed).2.1 = 11 := (mi_at mi_feed).1
theorem nl_feed : (q_ms k_feed).2.2.2.1 = 6 := (mi_at mi_feed).2.1
theorem rt_feed : (q_ms k_feed).2.2.2.2.1 = (some ClassFile.FieldType.int) := (mi_at mi_feed).2.2.1
theorem vk_feed : (q_ms k_feed).1 = 0 ∧ (q_ms k_feed).2.1 = 11 ∧ (q_ms k_feed).2.2.2.2.2.1 = 5 := ⟨(mi_at mi_feed).2.2.2.1, (mi_at mi_feed).1, (mi_at mi_feed).2.2.2.2⟩
theorem mi_refuse : q_ms k_refuse = (0, 11, prog_13_method_3_code, 2, (some ClassFile.FieldType.int), 1, ⟨"PatternTrierModel", "refuse", "(I)I"⟩) := rfl
theorem own_refuse : (q_ms k_refuse).2.1 = 11 := (mi_at mi_refuse).1
theorem nl_refuse : (q_ms k_refuse).2.2.2.1 = 2 := (mi_at mi_refuse).2.1
theorem rt_refuse : (q_ms k_refuse).2.2.2.2.1 = (some ClassFile.FieldType.int) := (mi_at mi_refuse).2.2.1
theorem vk_refuse : (q_ms k_refuse).1 = 0 ∧ (q_ms k_refuse).2.1 = 11 ∧ (q_ms k_refuse).2.2.2.2.2.1 = 1 := ⟨(mi_at mi_refuse).2.2.2.1, (mi_at mi_refuse).1, (mi_at mi_refuse).2.2.2.2⟩
theorem mi_four : q_ms k_four = (0, 11, prog_13_method_7_code, 3, none, 1, ⟨"PatternTrierModel", "four", "(I)V"⟩) := rfl
theorem own_four : (q_ms k_four).2.1 = 11 := (mi_at mi_four).1
theorem nl_four : (q_ms k_four).2.2.2.1 = 3 := (mi_at mi_four).2.1
theorem rt_four : (q_ms k_four).2.2.2.2.1 = none := (mi_at mi_four).2.2.1
theorem vk_four : (q_ms k_four).1 = 0 ∧ (q_ms k_four).2.1 = 11 ∧ (q_ms k_four).2.2.2.2.2.1 = 1 := ⟨(mi_at mi_four).2.2.2.1, (mi_at mi_four).1, (mi_at mi_four).2.2.2.2⟩
theorem mi_end : q_ms k_end = (0, 11, prog_13_method_8_code, 2, (some ClassFile.FieldType.int), 1, ⟨"PatternTrierModel", "end", "(I)I"⟩) := rfl
theorem own_end : (q_ms k_end).2.1 = 11 := (mi_at mi_end).1
theorem nl_end : (q_ms k_end).2.2.2.1 = 2 := (mi_at mi_end).2.1
theorem rt_end : (q_ms k_end).2.2.2.2.1 = (some ClassFile.FieldType.int) := (mi_at mi_end).2.2.1
theorem vk_end : (q_ms k_end).1 = 0 ∧ (q_ms k_end).2.1 = 11 ∧ (q_ms k_end).2.2.2.2.2.1 = 1 := ⟨(mi_at mi_end).2.2.2.1, (mi_at mi_end).1, (mi_at mi_end).2.2.2.2⟩
theorem mi_in : q_ms k_in = (1, 11, prog_13_method_4_code, 3, (some ClassFile.FieldType.boolean), 3, ⟨"PatternTrierModel", "in", "(III)Z"⟩) := rfl
theorem own_in : (q_ms k_in).2.1 = 11 := (mi_at mi_in).1
theorem nl_in : (q_ms k_in).2.2.2.1 = 3 := (mi_at mi_in).2.1
theorem rt_in : (q_ms k_in).2.2.2.2.1 = (some ClassFile.FieldType.boolean) := (mi_at mi_in).2.2.1
theorem vk_in : (q_ms k_in).1 = 1 ∧ (q_ms k_in).2.2.2.2.2.1 = 3 := ⟨(mi_at mi_in).2.2.2.1, (mi_at mi_in).2.2.2.2⟩
theorem mi_pattern : q_ms k_pattern = (0, 11, prog_13_method_32_code, 4, (some ClassFile.FieldType.int), 1, ⟨"PatternTrierModel", "pattern", "(I)I"⟩) := rfl
theorem own_pattern : (q_ms k_pattern).2.1 = 11 := (mi_at mi_pattern).1
theorem nl_pattern : (q_ms k_pattern).2.2.2.1 = 4 := (mi_at mi_pattern).2.1
theorem rt_pattern : (q_ms k_pattern).2.2.2.2.1 = (some ClassFile.FieldType.int) := (mi_at mi_pattern).2.2.1
theorem vk_pattern : (q_ms k_pattern).1 = 0 ∧ (q_ms k_pattern).2.1 = 11 ∧ (q_ms k_pattern).2.2.2.2.2.1 = 1 := ⟨(mi_at mi_pattern).2.2.2.1, (mi_at mi_pattern).1, (mi_at mi_pattern).2.2.2.2⟩
theorem mi_take : q_ms k_take = (0, 11, prog_13_method_9_code, 2, none, 0, ⟨"PatternTrierModel", "take", "()V"⟩) := rfl
theorem own_take : (q_ms k_take).2.1 = 11 := (mi_at mi_take).1
theorem nl_take : (q_ms k_take).2.2.2.1 = 2 := (mi_at mi_take).2.1
theorem rt_take : (q_ms k_take).2.2.2.2.1 = none := (mi_at mi_take).2.2.1
theorem vk_take : (q_ms k_take).1 = 0 ∧ (q_ms k_take).2.1 = 11 ∧ (q_ms k_take).2.2.2.2.2.1 = 0 := ⟨(mi_at mi_take).2.2.2.1, (mi_at mi_take).1, (mi_at mi_take).2.2.2.2⟩
theorem mi_readPattern : q_ms k_readPattern = (0, 11, prog_13_method_22_code, 3, none, 0, ⟨"PatternTrierModel", "readPattern", "()V"⟩) := rfl
theorem own_readPattern : (q_ms k_readPattern).2.1 = 11 := (mi_at mi_readPattern).1
theorem nl_readPattern : (q_ms k_readPattern).2.2.2.1 = 3 := (mi_at mi_readPattern).2.1
theorem rt_readPattern : (q_ms k_readPattern).2.2.2.2.1 = none := (mi_at mi_readPattern).2.2.1
theorem vk_readPattern : (q_ms k_readPattern).1 = 0 ∧ (q_ms k_readPattern).2.1 = 11 ∧ (q_ms k_readPattern).2.2.2.2.2.1 = 0 := ⟨(mi_at mi_readPattern).2.2.2.1, (mi_at mi_readPattern).1, (mi_at mi_readPattern).2.2.2.2⟩
theorem mi_opens : q_ms k_opens = (0, 11, prog_13_method_20_code, 4, none, 3, ⟨"PatternTrierModel", "opens", "(III)V"⟩) := rfl
theorem own_opens : (q_ms k_opens).2.1 = 11 := (mi_at mi_opens).1
theorem nl_opens : (q_ms k_opens).2.2.2.1 = 4 := (mi_at mi_opens).2.1
theorem rt_opens : (q_ms k_opens).2.2.2.2.1 = none := (mi_at mi_opens).2.2.1
theorem vk_opens : (q_ms k_opens).1 = 0 ∧ (q_ms k_opens).2.1 = 11 ∧ (q_ms k_opens).2.2.2.2.2.1 = 3 := ⟨(mi_at mi_opens).2.2.2.1, (mi_at mi_opens).1, (mi_at mi_opens).2.2.2.2⟩
theorem mi_newNode : q_ms k_newNode = (0, 11, prog_13_method_11_code, 4, (some ClassFile.FieldType.int), 3, ⟨"PatternTrierModel", "newNode", "(III)I"⟩) := rfl
theorem own_newNode : (q_ms k_newNode).2.1 = 11 := (mi_at mi_newNode).1
theorem nl_newNode : (q_ms k_newNode).2.2.2.1 = 4 := (mi_at mi_newNode).2.1
theorem rt_newNode : (q_ms k_newNode).2.2.2.2.1 = (some ClassFile.FieldType.int) := (mi_at mi_newNode).2.2.1
theorem vk_newNode : (q_ms k_newNode).1 = 0 ∧ (q_ms k_newNode).2.1 = 11 ∧ (q_ms k_newNode).2.2.2.2.2.1 = 3 := ⟨(mi_at mi_newNode).2.2.2.1, (mi_at mi_newNode).1, (mi_at mi_newNode).2.2.2.2⟩
theorem mi_signAt : q_ms k_signAt = (0, 11, prog_13_method_10_code, 2, (some ClassFile.FieldType.int), 1, ⟨"PatternTrierModel", "signAt", "(I)I"⟩) := rfl
theorem own_signAt : (q_ms k_signAt).2.1 = 11 := (mi_at mi_signAt).1
theorem nl_signAt : (q_ms k_signAt).2.2.2.1 = 2 := (mi_at mi_signAt).2.1
theorem rt_signAt : (q_ms k_signAt).2.2.2.2.1 = (some ClassFile.FieldType.int) := (mi_at mi_signAt).2.2.1
theorem vk_signAt : (q_ms k_signAt).1 = 0 ∧ (q_ms k_signAt).2.1 = 11 ∧ (q_ms k_signAt).2.2.2.2.2.1 = 1 := ⟨(mi_at mi_signAt).2.2.2.1, (mi_at mi_signAt).1, (mi_at mi_signAt).2.2.2.2⟩
theorem mi_closed : q_ms k_closed = (0, 11, prog_13_method_21_code, 2, (some ClassFile.FieldType.int), 0, ⟨"PatternTrierModel", "closed", "()I"⟩) := rfl
theorem own_closed : (q_ms k_closed).2.1 = 11 := (mi_at mi_closed).1
theorem nl_closed : (q_ms k_closed).2.2.2.1 = 2 := (mi_at mi_closed).2.1
theorem rt_closed : (q_ms k_closed).2.2.2.2.1 = (some ClassFile.FieldType.int) := (mi_at mi_closed).2.2.1
theorem vk_closed : (q_ms k_closed).1 = 0 ∧ (q_ms k_closed).2.1 = 11 ∧ (q_ms k_closed).2.2.2.2.2.1 = 0 := ⟨(mi_at mi_closed).2.2.2.1, (mi_at mi_closed).1, (mi_at mi_closed).2.2.2.2⟩
theorem mi_both : q_ms k_both = (0, 11, prog_13_method_19_code, 8, (some ClassFile.FieldType.int), 4, ⟨"PatternTrierModel", "both", "(IIII)I"⟩) := rfl
theorem own_both : (q_ms k_both).2.1 = 11 := (mi_at mi_both).1
theorem nl_both : (q_ms k_both).2.2.2.1 = 8 := (mi_at mi_both).2.1
theorem rt_both : (q_ms k_both).2.2.2.2.1 = (some ClassFile.FieldType.int) := (mi_at mi_both).2.2.1
theorem vk_both : (q_ms k_both).1 = 0 ∧ (q_ms k_both).2.1 = 11 ∧ (q_ms k_both).2.2.2.2.2.1 = 4 := ⟨(mi_at mi_both).2.2.2.1, (mi_at mi_both).1, (mi_at mi_both).2.2.2.2⟩
theorem mi_bracket : q_ms k_bracket = (0, 11, prog_13_method_24_code, 5, none, 0, ⟨"PatternTrierModel", "bracket", "()V"⟩) := rfl
theorem own_bracket : (q_ms k_bracket).2.1 = 11 := (mi_at mi_bracket).1
theorem nl_bracket : (q_ms k_bracket).2.2.2.1 = 5 := (mi_at mi_bracket).2.1
theorem rt_bracket : (q_ms k_bracket).2.2.2.2.1 = none := (mi_at mi_bracket).2.2.1
theorem vk_bracket : (q_ms k_bracket).1 = 0 ∧ (q_ms k_bracket).2.1 = 11 ∧ (q_ms k_bracket).2.2.2.2.2.1 = 0 := ⟨(mi_at mi_bracket).2.2.2.1, (mi_at mi_bracket).1, (mi_at mi_bracket).2.2.2.2⟩
theorem mi_wrong : q_ms k_wrong = (0, 11, prog_13_method_12_code, 2, (some ClassFile.FieldType.int), 1, ⟨"PatternTrierModel", "wrong", "(I)I"⟩) := rfl
theorem own_wrong : (q_ms k_wrong).2.1 = 11 := (mi_at mi_wrong).1
theorem nl_wrong : (q_ms k_wrong).2.2.2.1 = 2 := (mi_at mi_wrong).2.1
theorem rt_wrong : (q_ms k_wrong).2.2.2.2.1 = (some ClassFile.FieldType.int) := (mi_at mi_wrong).2.2.1
theorem vk_wrong : (q_ms k_wrong).1 = 0 ∧ (q_ms k_wrong).2.1 = 11 ∧ (q_ms k_wrong).2.2.2.2.2.1 = 1 := ⟨(mi_at mi_wrong).2.2.2.1, (mi_at mi_wrong).1, (mi_at mi_wrong).2.2.2.2⟩
theorem mi_close : q_ms k_close = (0, 11, prog_13_method_25_code, 4, none, 0, ⟨"PatternTrierModel", "close", "()V"⟩) := rfl
theorem own_close : (q_ms k_close).2.1 = 11 := (mi_at mi_close).1
theorem nl_close : (q_ms k_close).2.2.2.1 = 4 := (mi_at mi_close).2.1
theorem rt_close : (q_ms k_close).2.2.2.2.1 = none := (mi_at mi_close).2.2.1
theorem vk_close : (q_ms k_close).1 = 0 ∧ (q_ms k_close).2.1 = 11 ∧ (q_ms k_close).2.2.2.2.2.1 = 0 := ⟨(mi_at mi_close).2.2.2.1, (mi_at mi_close).1, (mi_at mi_close).2.2.2.2⟩
theorem mi_quantified : q_ms k_quantified = (0, 11, prog_13_method_26_code, 8, (some ClassFile.FieldType.int), 1, ⟨"PatternTrierModel", "quantified", "(I)I"⟩) := rfl
theorem own_quantified : (q_ms k_quantified).2.1 = 11 := (mi_at mi_quantified).1
theorem nl_quantified : (q_ms k_quantified).2.2.2.1 = 8 := (mi_at mi_quantified).2.1
theorem rt_quantified : (q_ms k_quantified).2.2.2.2.1 = (some ClassFile.FieldType.int) := (mi_at mi_quantified).2.2.1
theorem vk_quantified : (q_ms k_quantified).1 = 0 ∧ (q_ms k_quantified).2.1 = 11 ∧ (q_ms k_quantified).2.2.2.2.2.1 = 1 := ⟨(mi_at mi_quantified).2.2.2.1, (mi_at mi_quantified).1, (mi_at mi_quantified).2.2.2.2⟩
theorem mi_number : q_ms k_number = (0, 11, prog_13_method_27_code, 3, (some ClassFile.FieldType.int), 0, ⟨"PatternTrierModel", "number", "()I"⟩) := rfl
theorem own_number : (q_ms k_number).2.1 = 11 := (mi_at mi_number).1
theorem nl_number : (q_ms k_number).2.2.2.1 = 3 := (mi_at mi_number).2.1
theorem rt_number : (q_ms k_number).2.2.2.2.1 = (some ClassFile.FieldType.int) := (mi_at mi_number).2.2.1
theorem vk_number : (q_ms k_number).1 = 0 ∧ (q_ms k_number).2.1 = 11 ∧ (q_ms k_number).2.2.2.2.2.1 = 0 := ⟨(mi_at mi_number).2.2.2.1, (mi_at mi_number).1, (mi_at mi_number).2.2.2.2⟩
theorem mi_joins : q_ms k_joins = (0, 11, prog_13_method_23_code, 3, none, 1, ⟨"PatternTrierModel", "joins", "(I)V"⟩) := rfl
theorem own_joins : (q_ms k_joins).2.1 = 11 := (mi_at mi_joins).1
theorem nl_joins : (q_ms k_joins).2.2.2.1 = 3 := (mi_at mi_joins).2.1
theorem rt_joins : (q_ms k_joins).2.2.2.2.1 = none := (mi_at mi_joins).2.2.1
theorem vk_joins : (q_ms k_joins).1 = 0 ∧ (q_ms k_joins).2.1 = 11 ∧ (q_ms k_joins).2.2.2.2.2.1 = 1 := ⟨(mi_at mi_joins).2.2.2.1, (mi_at mi_joins).1, (mi_at mi_joins).2.2.2.2⟩
theorem mi_atom : q_ms k_atom = (0, 11, prog_13_method_29_code, 4, (some ClassFile.FieldType.int), 0, ⟨"PatternTrierModel", "atom", "()I"⟩) := rfl
theorem own_atom : (q_ms k_atom).2.1 = 11 := (mi_at mi_atom).1
theorem nl_atom : (q_ms k_atom).2.2.2.1 = 4 := (mi_at mi_atom).2.1
theorem rt_atom : (q_ms k_atom).2.2.2.2.1 = (some ClassFile.FieldType.int) := (mi_at mi_atom).2.2.1
theorem vk_atom : (q_ms k_atom).1 = 0 ∧ (q_ms k_atom).2.1 = 11 ∧ (q_ms k_atom).2.2.2.2.2.1 = 0 := ⟨(mi_at mi_atom).2.2.2.1, (mi_at mi_atom).1, (mi_at mi_atom).2.2.2.2⟩
theorem mi_single : q_ms k_single = (0, 11, prog_13_method_28_code, 3, (some ClassFile.FieldType.int), 1, ⟨"PatternTrierModel", "single", "(I)I"⟩) := rfl
theorem own_single : (q_ms k_single).2.1 = 11 := (mi_at mi_single).1
theorem nl_single : (q_ms k_single).2.2.2.1 = 3 := (mi_at mi_single).2.1
theorem rt_single : (q_ms k_single).2.2.2.2.1 = (some ClassFile.FieldType.int) := (mi_at mi_single).2.2.1
theorem vk_single : (q_ms k_single).1 = 0 ∧ (q_ms k_single).2.1 = 11 ∧ (q_ms k_single).2.2.2.2.2.1 = 1 := ⟨(mi_at mi_single).2.2.2.1, (mi_at mi_single).1, (mi_at mi_single).2.2.2.2⟩
theorem mi_newSet : q_ms k_newSet = (0, 11, prog_13_method_13_code, 2, (some ClassFile.FieldType.int), 0, ⟨"PatternTrierModel", "newSet", "()I"⟩) := rfl
theorem own_newSet : (q_ms k_newSet).2.1 = 11 := (mi_at mi_newSet).1
theorem nl_newSet : (q_ms k_newSet).2.2.2.1 = 2 := (mi_at mi_newSet).2.1
theorem rt_newSet : (q_ms k_newSet).2.2.2.2.1 = (some ClassFile.FieldType.int) := (mi_at mi_newSet).2.2.1
theorem vk_newSet : (q_ms k_newSet).1 = 0 ∧ (q_ms k_newSet).2.1 = 11 ∧ (q_ms k_newSet).2.2.2.2.2.1 = 0 := ⟨(mi_at mi_newSet).2.2.2.1, (mi_at mi_newSet).1, (mi_at mi_newSet).2.2.2.2⟩
theorem mi_include : q_ms k_include = (0, 11, prog_13_method_14_code, 3, none, 2, ⟨"PatternTrierModel", "include", "(II)V"⟩) := rfl
theorem own_include : (q_ms k_include).2.1 = 11 := (mi_at mi_include).1
theorem nl_include : (q_ms k_include).2.2.2.1 = 3 := (mi_at mi_include).2.1
theorem rt_include : (q_ms k_include).2.2.2.2.1 = none := (mi_at mi_include).2.2.1
theorem vk_include : (q_ms k_include).1 = 0 ∧ (q_ms k_include).2.1 = 11 ∧ (q_ms k_include).2.2.2.2.2.1 = 2 := ⟨(mi_at mi_include).2.2.2.1, (mi_at mi_include).1, (mi_at mi_include).2.2.2.2⟩
theorem mi_escape : q_ms k_escape = (0, 11, prog_13_method_30_code, 4, none, 1, ⟨"PatternTrierModel", "escape", "(I)V"⟩) := rfl
theorem own_escape : (q_ms k_escape).2.1 = 11 := (mi_at mi_escape).1
theorem nl_escape : (q_ms k_escape).2.2.2.1 = 4 := (mi_at mi_escape).2.1
theorem rt_escape : (q_ms k_escape).2.2.2.2.1 = none := (mi_at mi_escape).2.2.1
theorem vk_escape : (q_ms k_escape).1 = 0 ∧ (q_ms k_escape).2.1 = 11 ∧ (q_ms k_escape).2.2.2.2.2.1 = 1 := ⟨(mi_at mi_escape).2.2.2.1, (mi_at mi_escape).1, (mi_at mi_escape).2.2.2.2⟩
theorem mi_isLetterOfKind : q_ms k_isLetterOfKind = (1, 11, prog_13_method_18_code, 1, (some ClassFile.FieldType.boolean), 1, ⟨"PatternTrierModel", "isLetterOfKind", "(I)Z"⟩) := rfl
theorem own_isLetterOfKind : (q_ms k_isLetterOfKind).2.1 = 11 := (mi_at mi_isLetterOfKind).1
theorem nl_isLetterOfKind : (q_ms k_isLetterOfKind).2.2.2.1 = 1 := (mi_at mi_isLetterOfKind).2.1
theorem rt_isLetterOfKind : (q_ms k_isLetterOfKind).2.2.2.2.1 = (some ClassFile.FieldType.boolean) := (mi_at mi_isLetterOfKind).2.2.1
theorem vk_isLetterOfKind : (q_ms k_isLetterOfKind).1 = 1 ∧ (q_ms k_isLetterOfKind).2.2.2.2.2.1 = 1 := ⟨(mi_at mi_isLetterOfKind).2.2.2.1, (mi_at mi_isLetterOfKind).2.2.2.2⟩
theorem mi_isKind : q_ms k_isKind = (1, 11, prog_13_method_17_code, 2, (some ClassFile.FieldType.boolean), 2, ⟨"PatternTrierModel", "isKind", "(II)Z"⟩) := rfl
theorem own_isKind : (q_ms k_isKind).2.1 = 11 := (mi_at mi_isKind).1
theorem nl_isKind : (q_ms k_isKind).2.2.2.1 = 2 := (mi_at mi_isKind).2.1
theorem rt_isKind : (q_ms k_isKind).2.2.2.2.1 = (some ClassFile.FieldType.boolean) := (mi_at mi_isKind).2.2.1
theorem vk_isKind : (q_ms k_isKind).1 = 1 ∧ (q_ms k_isKind).2.2.2.2.2.1 = 2 := ⟨(mi_at mi_isKind).2.2.2.1, (mi_at mi_isKind).2.2.2.2⟩
theorem mi_isWord : q_ms k_isWord = (1, 11, prog_13_method_16_code, 1, (some ClassFile.FieldType.boolean), 1, ⟨"PatternTrierModel", "isWord", "(I)Z"⟩) := rfl
theorem own_isWord : (q_ms k_isWord).2.1 = 11 := (mi_at mi_isWord).1
theorem nl_isWord : (q_ms k_isWord).2.2.2.1 = 1 := (mi_at mi_isWord).2.1
theorem rt_isWord : (q_ms k_isWord).2.2.2.2.1 = (some ClassFile.FieldType.boolean) := (mi_at mi_isWord).2.2.1
theorem vk_isWord : (q_ms k_isWord).1 = 1 ∧ (q_ms k_isWord).2.2.2.2.2.1 = 1 := ⟨(mi_at mi_isWord).2.2.2.1, (mi_at mi_isWord).2.2.2.2⟩
theorem mi_isBlank : q_ms k_isBlank = (1, 11, prog_13_method_5_code, 1, (some ClassFile.FieldType.boolean), 1, ⟨"PatternTrierModel", "isBlank", "(I)Z"⟩) := rfl
theorem own_isBlank : (q_ms k_isBlank).2.1 = 11 := (mi_at mi_isBlank).1
theorem nl_isBlank : (q_ms k_isBlank).2.2.2.1 = 1 := (mi_at mi_isBlank).2.1
theorem rt_isBlank : (q_ms k_isBlank).2.2.2.2.1 = (some ClassFile.FieldType.boolean) := (mi_at mi_isBlank).2.2.1
theorem vk_isBlank : (q_ms k_isBlank).1 = 1 ∧ (q_ms k_isBlank).2.2.2.2.2.1 = 1 := ⟨(mi_at mi_isBlank).2.2.2.1, (mi_at mi_isBlank).2.2.2.2⟩
theorem mi_many : q_ms k_many = (0, 11, prog_13_method_31_code, 8, none, 1, ⟨"PatternTrierModel", "many", "(I)V"⟩) := rfl
theorem own_many : (q_ms k_many).2.1 = 11 := (mi_at mi_many).1
theorem nl_many : (q_ms k_many).2.2.2.1 = 8 := (mi_at mi_many).2.1
theorem rt_many : (q_ms k_many).2.2.2.2.1 = none := (mi_at mi_many).2.2.1
theorem vk_many : (q_ms k_many).1 = 0 ∧ (q_ms k_many).2.1 = 11 ∧ (q_ms k_many).2.2.2.2.2.1 = 1 := ⟨(mi_at mi_many).2.2.2.1, (mi_at mi_many).1, (mi_at mi_many).2.2.2.2⟩
theorem mi_text : q_ms k_text = (0, 11, prog_13_method_33_code, 3, (some ClassFile.FieldType.int), 1, ⟨"PatternTrierModel", "text", "(I)I"⟩) := rfl
theorem own_text : (q_ms k_text).2.1 = 11 := (mi_at mi_text).1
theorem nl_text : (q_ms k_text).2.2.2.1 = 3 := (mi_at mi_text).2.1
theorem rt_text : (q_ms k_text).2.2.2.2.1 = (some ClassFile.FieldType.int) := (mi_at mi_text).2.2.1
theorem vk_text : (q_ms k_text).1 = 0 ∧ (q_ms k_text).2.1 = 11 ∧ (q_ms k_text).2.2.2.2.2.1 = 1 := ⟨(mi_at mi_text).2.2.2.1, (mi_at mi_text).1, (mi_at mi_text).2.2.2.2⟩
theorem mi_match : q_ms k_match = (0, 11, prog_13_method_55_code, 7, (some ClassFile.FieldType.int), 4, ⟨"PatternTrierModel", "match", "(IIII)I"⟩) := rfl
theorem own_match : (q_ms k_match).2.1 = 11 := (mi_at mi_match).1
theorem nl_match : (q_ms k_match).2.2.2.1 = 7 := (mi_at mi_match).2.1
theorem rt_match : (q_ms k_match).2.2.2.2.1 = (some ClassFile.FieldType.int) := (mi_at mi_match).2.2.1
theorem vk_match : (q_ms k_match).1 = 0 ∧ (q_ms k_match).2.1 = 11 ∧ (q_ms k_match).2.2.2.2.2.1 = 4 := ⟨(mi_at mi_match).2.2.2.1, (mi_at mi_match).1, (mi_at mi_match).2.2.2.2⟩
theorem mi_prepare : q_ms k_prepare = (0, 11, prog_13_method_52_code, 3, none, 2, ⟨"PatternTrierModel", "prepare", "(II)V"⟩) := rfl
theorem own_prepare : (q_ms k_prepare).2.1 = 11 := (mi_at mi_prepare).1
theorem nl_prepare : (q_ms k_prepare).2.2.2.1 = 3 := (mi_at mi_prepare).2.1
theorem rt_prepare : (q_ms k_prepare).2.2.2.2.1 = none := (mi_at mi_prepare).2.2.1
theorem vk_prepare : (q_ms k_prepare).1 = 0 ∧ (q_ms k_prepare).2.1 = 11 ∧ (q_ms k_prepare).2.2.2.2.2.1 = 2 := ⟨(mi_at mi_prepare).2.2.2.1, (mi_at mi_prepare).1, (mi_at mi_prepare).2.2.2.2⟩
theorem mi_again : q_ms k_again = (0, 11, prog_13_method_51_code, 3, none, 1, ⟨"PatternTrierModel", "again", "(I)V"⟩) := rfl
theorem own_again : (q_ms k_again).2.1 = 11 := (mi_at mi_again).1
theorem nl_again : (q_ms k_again).2.2.2.1 = 3 := (mi_at mi_again).2.1
theorem rt_again : (q_ms k_again).2.2.2.2.1 = none := (mi_at mi_again).2.2.1
theorem vk_again : (q_ms k_again).1 = 0 ∧ (q_ms k_again).2.1 = 11 ∧ (q_ms k_again).2.2.2.2.2.1 = 1 := ⟨(mi_at mi_again).2.2.2.1, (mi_at mi_again).1, (mi_at mi_again).2.2.2.2⟩
theorem mi_compile : q_ms k_compile = (0, 11, prog_13_method_37_code, 7, none, 0, ⟨"PatternTrierModel", "compile", "()V"⟩) := rfl
theorem own_compile : (q_ms k_compile).2.1 = 11 := (mi_at mi_compile).1
theorem nl_compile : (q_ms k_compile).2.2.2.1 = 7 := (mi_at mi_compile).2.1
theorem rt_compile : (q_ms k_compile).2.2.2.2.1 = none := (mi_at mi_compile).2.2.1
theorem vk_compile : (q_ms k_compile).1 = 0 ∧ (q_ms k_compile).2.1 = 11 ∧ (q_ms k_compile).2.2.2.2.2.1 = 0 := ⟨(mi_at mi_compile).2.2.2.1, (mi_at mi_compile).1, (mi_at mi_compile).2.2.2.2⟩
theorem mi_later : q_ms k_later = (0, 11, prog_13_method_35_code, 5, none, 4, ⟨"PatternTrierModel", "later", "(IIII)V"⟩) := rfl
theorem own_later : (q_ms k_later).2.1 = 11 := (mi_at mi_later).1
theorem nl_later : (q_ms k_later).2.2.2.1 = 5 := (mi_at mi_later).2.1
theorem rt_later : (q_ms k_later).2.2.2.2.1 = none := (mi_at mi_later).2.2.1
theorem vk_later : (q_ms k_later).1 = 0 ∧ (q_ms k_later).2.1 = 11 ∧ (q_ms k_later).2.2.2.2.2.1 = 4 := ⟨(mi_at mi_later).2.2.2.1, (mi_at mi_later).1, (mi_at mi_later).2.2.2.2⟩
theorem mi_nodeOf : q_ms k_nodeOf = (0, 11, prog_13_method_39_code, 4, none, 1, ⟨"PatternTrierModel", "nodeOf", "(I)V"⟩) := rfl
theorem own_nodeOf : (q_ms k_nodeOf).2.1 = 11 := (mi_at mi_nodeOf).1
theorem nl_nodeOf : (q_ms k_nodeOf).2.2.2.1 = 4 := (mi_at mi_nodeOf).2.1
theorem rt_nodeOf : (q_ms k_nodeOf).2.2.2.2.1 = none := (mi_at mi_nodeOf).2.2.1
theorem vk_nodeOf : (q_ms k_nodeOf).1 = 0 ∧ (q_ms k_nodeOf).2.1 = 11 ∧ (q_ms k_nodeOf).2.2.2.2.2.1 = 1 := ⟨(mi_at mi_nodeOf).2.2.2.1, (mi_at mi_nodeOf).1, (mi_at mi_nodeOf).2.2.2.2⟩
theorem mi_emit : q_ms k_emit = (0, 11, prog_13_method_34_code, 5, (some ClassFile.FieldType.int), 3, ⟨"PatternTrierModel", "emit", "(III)I"⟩) := rfl
theorem own_emit : (q_ms k_emit).2.1 = 11 := (mi_at mi_emit).1
theorem nl_emit : (q_ms k_emit).2.2.2.1 = 5 := (mi_at mi_emit).2.1
theorem rt_emit : (q_ms k_emit).2.2.2.2.1 = (some ClassFile.FieldType.int) := (mi_at mi_emit).2.2.1
theorem vk_emit : (q_ms k_emit).1 = 0 ∧ (q_ms k_emit).2.1 = 11 ∧ (q_ms k_emit).2.2.2.2.2.1 = 3 := ⟨(mi_at mi_emit).2.2.2.1, (mi_at mi_emit).1, (mi_at mi_emit).2.2.2.2⟩
theorem mi_split : q_ms k_split = (0, 11, prog_13_method_36_code, 5, none, 4, ⟨"PatternTrierModel", "split", "(IIIZ)V"⟩) := rfl
theorem own_split : (q_ms k_split).2.1 = 11 := (mi_at mi_split).1
theorem nl_split : (q_ms k_split).2.2.2.1 = 5 := (mi_at mi_split).2.1
theorem rt_split : (q_ms k_split).2.2.2.2.1 = none := (mi_at mi_split).2.2.1
theorem vk_split : (q_ms k_split).1 = 0 ∧ (q_ms k_split).2.1 = 11 ∧ (q_ms k_split).2.2.2.2.2.1 = 4 := ⟨(mi_at mi_split).2.2.2.1, (mi_at mi_split).1, (mi_at mi_split).2.2.2.2⟩
theorem mi_maybe : q_ms k_maybe = (0, 11, prog_13_method_38_code, 7, none, 3, ⟨"PatternTrierModel", "maybe", "(III)V"⟩) := rfl
theorem own_maybe : (q_ms k_maybe).2.1 = 11 := (mi_at mi_maybe).1
theorem nl_maybe : (q_ms k_maybe).2.2.2.1 = 7 := (mi_at mi_maybe).2.1
theorem rt_maybe : (q_ms k_maybe).2.2.2.2.1 = none := (mi_at mi_maybe).2.2.1
theorem vk_maybe : (q_ms k_maybe).1 = 0 ∧ (q_ms k_maybe).2.1 = 11 ∧ (q_ms k_maybe).2.2.2.2.2.1 = 3 := ⟨(mi_at mi_maybe).2.2.2.1, (mi_at mi_maybe).1, (mi_at mi_maybe).2.2.2.2⟩
theorem mi_newSearch : q_ms k_newSearch = (0, 11, prog_13_method_53_code, 1, none, 0, ⟨"PatternTrierModel", "newSearch", "()V"⟩) := rfl
theorem own_newSearch : (q_ms k_newSearch).2.1 = 11 := (mi_at mi_newSearch).1
theorem nl_newSearch : (q_ms k_newSearch).2.2.2.1 = 1 := (mi_at mi_newSearch).2.1
theorem rt_newSearch : (q_ms k_newSearch).2.2.2.2.1 = none := (mi_at mi_newSearch).2.2.1
theorem vk_newSearch : (q_ms k_newSearch).1 = 0 ∧ (q_ms k_newSearch).2.1 = 11 ∧ (q_ms k_newSearch).2.2.2.2.2.1 = 0 := ⟨(mi_at mi_newSearch).2.2.2.1, (mi_at mi_newSearch).1, (mi_at mi_newSearch).2.2.2.2⟩
theorem mi_clearNotes : q_ms k_clearNotes = (0, 11, prog_13_method_43_code, 5, none, 2, ⟨"PatternTrierModel", "clearNotes", "(II)V"⟩) := rfl
theorem own_clearNotes : (q_ms k_clearNotes).2.1 = 11 := (mi_at mi_clearNotes).1
theorem nl_clearNotes : (q_ms k_clearNotes).2.2.2.1 = 5 := (mi_at mi_clearNotes).2.1
theorem rt_clearNotes : (q_ms k_clearNotes).2.2.2.2.1 = none := (mi_at mi_clearNotes).2.2.1
theorem vk_clearNotes : (q_ms k_clearNotes).1 = 0 ∧ (q_ms k_clearNotes).2.1 = 11 ∧ (q_ms k_clearNotes).2.2.2.2.2.1 = 2 := ⟨(mi_at mi_clearNotes).2.2.2.1, (mi_at mi_clearNotes).1, (mi_at mi_clearNotes).2.2.2.2⟩
theorem mi_tryAt : q_ms k_tryAt = (0, 11, prog_13_method_54_code, 3, (some ClassFile.FieldType.int), 1, ⟨"PatternTrierModel", "tryAt", "(I)I"⟩) := rfl
theorem own_tryAt : (q_ms k_tryAt).2.1 = 11 := (mi_at mi_tryAt).1
theorem nl_tryAt : (q_ms k_tryAt).2.2.2.1 = 3 := (mi_at mi_tryAt).2.1
theorem rt_tryAt : (q_ms k_tryAt).2.2.2.2.1 = (some ClassFile.FieldType.int) := (mi_at mi_tryAt).2.2.1
theorem vk_tryAt : (q_ms k_tryAt).1 = 0 ∧ (q_ms k_tryAt).2.1 = 11 ∧ (q_ms k_tryAt).2.2.2.2.2.1 = 1 := ⟨(mi_at mi_tryAt).2.2.2.1, (mi_at mi_tryAt).1, (mi_at mi_tryAt).2.2.2.2⟩
theorem mi_go : q_ms k_go = (0, 11, prog_13_method_49_code, 4, (some ClassFile.FieldType.int), 1, ⟨"PatternTrierModel", "go", "(I)I"⟩) := rfl
theorem own_go : (q_ms k_go).2.1 = 11 := (mi_at mi_go).1
theorem nl_go : (q_ms k_go).2.2.2.1 = 4 := (mi_at mi_go).2.1
theorem rt_go : (q_ms k_go).2.2.2.2.1 = (some ClassFile.FieldType.int) := (mi_at mi_go).2.2.1
theorem vk_go : (q_ms k_go).1 = 0 ∧ (q_ms k_go).2.1 = 11 ∧ (q_ms k_go).2.2.2.2.2.1 = 1 := ⟨(mi_at mi_go).2.2.2.1, (mi_at mi_go).1, (mi_at mi_go).2.2.2.2⟩
theorem mi_push : q_ms k_push = (0, 11, prog_13_method_40_code, 2, none, 1, ⟨"PatternTrierModel", "push", "(I)V"⟩) := rfl
theorem own_push : (q_ms k_push).2.1 = 11 := (mi_at mi_push).1
theorem nl_push : (q_ms k_push).2.2.2.1 = 2 := (mi_at mi_push).2.1
theorem rt_push : (q_ms k_push).2.2.2.2.1 = none := (mi_at mi_push).2.2.1
theorem vk_push : (q_ms k_push).1 = 0 ∧ (q_ms k_push).2.1 = 11 ∧ (q_ms k_push).2.2.2.2.2.1 = 1 := ⟨(mi_at mi_push).2.2.2.1, (mi_at mi_push).1, (mi_at mi_push).2.2.2.2⟩
theorem mi_restored : q_ms k_restored = (0, 11, prog_13_method_42_code, 5, none, 1, ⟨"PatternTrierModel", "restored", "(I)V"⟩) := rfl
theorem own_restored : (q_ms k_restored).2.1 = 11 := (mi_at mi_restored).1
theorem nl_restored : (q_ms k_restored).2.2.2.1 = 5 := (mi_at mi_restored).2.1
theorem rt_restored : (q_ms k_restored).2.2.2.2.1 = none := (mi_at mi_restored).2.2.1
theorem vk_restored : (q_ms k_restored).1 = 0 ∧ (q_ms k_restored).2.1 = 11 ∧ (q_ms k_restored).2.2.2.2.2.1 = 1 := ⟨(mi_at mi_restored).2.2.2.1, (mi_at mi_restored).1, (mi_at mi_restored).2.2.2.2⟩
theorem mi_one : q_ms k_one = (0, 11, prog_13_method_47_code, 3, (some ClassFile.FieldType.int), 0, ⟨"PatternTrierModel", "one", "()I"⟩) := rfl
theorem own_one : (q_ms k_one).2.1 = 11 := (mi_at mi_one).1
theorem nl_one : (q_ms k_one).2.2.2.1 = 3 := (mi_at mi_one).2.1
theorem rt_one : (q_ms k_one).2.2.2.2.1 = (some ClassFile.FieldType.int) := (mi_at mi_one).2.2.1
theorem vk_one : (q_ms k_one).1 = 0 ∧ (q_ms k_one).2.1 = 11 ∧ (q_ms k_one).2.2.2.2.2.1 = 0 := ⟨(mi_at mi_one).2.2.2.1, (mi_at mi_one).1, (mi_at mi_one).2.2.2.2⟩
theorem mi_wasHere : q_ms k_wasHere = (0, 11, prog_13_method_46_code, 6, (some ClassFile.FieldType.boolean), 2, ⟨"PatternTrierModel", "wasHere", "(II)Z"⟩) := rfl
theorem own_wasHere : (q_ms k_wasHere).2.1 = 11 := (mi_at mi_wasHere).1
theorem nl_wasHere : (q_ms k_wasHere).2.2.2.1 = 6 := (mi_at mi_wasHere).2.1
theorem rt_wasHere : (q_ms k_wasHere).2.2.2.2.1 = (some ClassFile.FieldType.boolean) := (mi_at mi_wasHere).2.2.1
theorem vk_wasHere : (q_ms k_wasHere).1 = 0 ∧ (q_ms k_wasHere).2.1 = 11 ∧ (q_ms k_wasHere).2.2.2.2.2.1 = 2 := ⟨(mi_at mi_wasHere).2.2.2.1, (mi_at mi_wasHere).1, (mi_at mi_wasHere).2.2.2.2⟩
theorem mi_byteAt : q_ms k_byteAt = (0, 11, prog_13_method_44_code, 2, (some ClassFile.FieldType.int), 1, ⟨"PatternTrierModel", "byteAt", "(I)I"⟩) := rfl
theorem own_byteAt : (q_ms k_byteAt).2.1 = 11 := (mi_at mi_byteAt).1
theorem nl_byteAt : (q_ms k_byteAt).2.2.2.1 = 2 := (mi_at mi_byteAt).2.1
theorem rt_byteAt : (q_ms k_byteAt).2.2.2.2.1 = (some ClassFile.FieldType.int) := (mi_at mi_byteAt).2.2.1
theorem vk_byteAt : (q_ms k_byteAt).1 = 0 ∧ (q_ms k_byteAt).2.1 = 11 ∧ (q_ms k_byteAt).2.2.2.2.2.1 = 1 := ⟨(mi_at mi_byteAt).2.2.2.1, (mi_at mi_byteAt).1, (mi_at mi_byteAt).2.2.2.2⟩
theorem mi_has : q_ms k_has = (0, 11, prog_13_method_15_code, 3, (some ClassFile.FieldType.boolean), 2, ⟨"PatternTrierModel", "has", "(II)Z"⟩) := rfl
theorem own_has : (q_ms k_has).2.1 = 11 := (mi_at mi_has).1
theorem nl_has : (q_ms k_has).2.2.2.1 = 3 := (mi_at mi_has).2.1
theorem rt_has : (q_ms k_has).2.2.2.2.1 = (some ClassFile.FieldType.boolean) := (mi_at mi_has).2.2.1
theorem vk_has : (q_ms k_has).1 = 0 ∧ (q_ms k_has).2.1 = 11 ∧ (q_ms k_has).2.2.2.2.2.1 = 2 := ⟨(mi_at mi_has).2.2.2.1, (mi_at mi_has).1, (mi_at mi_has).2.2.2.2⟩
theorem mi_before : q_ms k_before = (0, 11, prog_13_method_41_code, 3, none, 2, ⟨"PatternTrierModel", "before", "(II)V"⟩) := rfl
theorem own_before : (q_ms k_before).2.1 = 11 := (mi_at mi_before).1
theorem nl_before : (q_ms k_before).2.2.2.1 = 3 := (mi_at mi_before).2.1
theorem rt_before : (q_ms k_before).2.2.2.2.1 = none := (mi_at mi_before).2.2.1
theorem vk_before : (q_ms k_before).1 = 0 ∧ (q_ms k_before).2.1 = 11 ∧ (q_ms k_before).2.2.2.2.2.1 = 2 := ⟨(mi_at mi_before).2.2.2.1, (mi_at mi_before).1, (mi_at mi_before).2.2.2.2⟩
theorem mi_isEdge : q_ms k_isEdge = (0, 11, prog_13_method_45_code, 4, (some ClassFile.FieldType.boolean), 1, ⟨"PatternTrierModel", "isEdge", "(I)Z"⟩) := rfl
theorem own_isEdge : (q_ms k_isEdge).2.1 = 11 := (mi_at mi_isEdge).1
theorem nl_isEdge : (q_ms k_isEdge).2.2.2.1 = 4 := (mi_at mi_isEdge).2.1
theorem rt_isEdge : (q_ms k_isEdge).2.2.2.2.1 = (some ClassFile.FieldType.boolean) := (mi_at mi_isEdge).2.2.1
theorem vk_isEdge : (q_ms k_isEdge).1 = 0 ∧ (q_ms k_isEdge).2.1 = 11 ∧ (q_ms k_isEdge).2.2.2.2.2.1 = 1 := ⟨(mi_at mi_isEdge).2.2.2.1, (mi_at mi_isEdge).1, (mi_at mi_isEdge).2.2.2.2⟩
theorem mi_asked : q_ms k_asked = (0, 11, prog_13_method_50_code, 5, (some ClassFile.FieldType.int), 0, ⟨"PatternTrierModel", "asked", "()I"⟩) := rfl
theorem own_asked : (q_ms k_asked).2.1 = 11 := (mi_at mi_asked).1
theorem nl_asked : (q_ms k_asked).2.2.2.1 = 5 := (mi_at mi_asked).2.1
theorem rt_asked : (q_ms k_asked).2.2.2.2.1 = (some ClassFile.FieldType.int) := (mi_at mi_asked).2.2.1
theorem vk_asked : (q_ms k_asked).1 = 0 ∧ (q_ms k_asked).2.1 = 11 ∧ (q_ms k_asked).2.2.2.2.2.1 = 0 := ⟨(mi_at mi_asked).2.2.2.1, (mi_at mi_asked).1, (mi_at mi_asked).2.2.2.2⟩
theorem mi_sub : q_ms k_sub = (0, 11, prog_13_method_48_code, 6, (some ClassFile.FieldType.int), 2, ⟨"PatternTrierModel", "sub", "(II)I"⟩) := rfl
theorem own_sub : (q_ms k_sub).2.1 = 11 := (mi_at mi_sub).1
theorem nl_sub : (q_ms k_sub).2.2.2.1 = 6 := (mi_at mi_sub).2.1
theorem rt_sub : (q_ms k_sub).2.2.2.2.1 = (some ClassFile.FieldType.int) := (mi_at mi_sub).2.2.1
theorem vk_sub : (q_ms k_sub).1 = 0 ∧ (q_ms k_sub).2.1 = 11 ∧ (q_ms k_sub).2.2.2.2.2.1 = 2 := ⟨(mi_at mi_sub).2.2.2.1, (mi_at mi_sub).1, (mi_at mi_sub).2.2.2.2⟩
theorem mi_group : q_ms k_group = (0, 11, prog_13_method_56_code, 3, (some ClassFile.FieldType.int), 2, ⟨"PatternTrierModel", "group", "(II)I"⟩) := rfl
theorem own_group : (q_ms k_group).2.1 = 11 := (mi_at mi_group).1
theorem nl_group : (q_ms k_group).2.2.2.1 = 3 := (mi_at mi_group).2.1
theorem rt_group : (q_ms k_group).2.2.2.2.1 = (some ClassFile.FieldType.int) := (mi_at mi_group).2.2.1
theorem vk_group : (q_ms k_group).1 = 0 ∧ (q_ms k_group).2.1 = 11 ∧ (q_ms k_group).2.2.2.2.2.1 = 2 := ⟨(mi_at mi_group).2.2.2.1, (mi_at mi_group).1, (mi_at mi_group).2.2.2.2⟩
theorem mi_find : q_ms k_find = (0, 11, prog_13_method_60_code, 4, (some ClassFile.FieldType.int), 2, ⟨"PatternTrierModel", "find", "(II)I"⟩) := rfl
theorem own_find : (q_ms k_find).2.1 = 11 := (mi_at mi_find).1
theorem nl_find : (q_ms k_find).2.2.2.1 = 4 := (mi_at mi_find).2.1
theorem rt_find : (q_ms k_find).2.2.2.2.1 = (some ClassFile.FieldType.int) := (mi_at mi_find).2.2.1
theorem vk_find : (q_ms k_find).1 = 0 ∧ (q_ms k_find).2.1 = 11 ∧ (q_ms k_find).2.2.2.2.2.1 = 2 := ⟨(mi_at mi_find).2.2.2.1, (mi_at mi_find).1, (mi_at mi_find).2.2.2.2⟩
theorem mi_nextMatch : q_ms k_nextMatch = (0, 11, prog_13_method_57_code, 4, (some ClassFile.FieldType.boolean), 1, ⟨"PatternTrierModel", "nextMatch", "(I)Z"⟩) := rfl
theorem own_nextMatch : (q_ms k_nextMatch).2.1 = 11 := (mi_at mi_nextMatch).1
theorem nl_nextMatch : (q_ms k_nextMatch).2.2.2.1 = 4 := (mi_at mi_nextMatch).2.1
theorem rt_nextMatch : (q_ms k_nextMatch).2.2.2.2.1 = (some ClassFile.FieldType.boolean) := (mi_at mi_nextMatch).2.2.1
theorem vk_nextMatch : (q_ms k_nextMatch).1 = 0 ∧ (q_ms k_nextMatch).2.1 = 11 ∧ (q_ms k_nextMatch).2.2.2.2.2.1 = 1 := ⟨(mi_at mi_nextMatch).2.2.2.1, (mi_at mi_nextMatch).1, (mi_at mi_nextMatch).2.2.2.2⟩
theorem mi_behindLast : q_ms k_behindLast = (0, 11, prog_13_method_58_code, 1, (some ClassFile.FieldType.int), 0, ⟨"PatternTrierModel", "behindLast", "()I"⟩) := rfl
theorem own_behindLast : (q_ms k_behindLast).2.1 = 11 := (mi_at mi_behindLast).1
theorem nl_behindLast : (q_ms k_behindLast).2.2.2.1 = 1 := (mi_at mi_behindLast).2.1
theorem rt_behindLast : (q_ms k_behindLast).2.2.2.2.1 = (some ClassFile.FieldType.int) := (mi_at mi_behindLast).2.2.1
theorem vk_behindLast : (q_ms k_behindLast).1 = 0 ∧ (q_ms k_behindLast).2.1 = 11 ∧ (q_ms k_behindLast).2.2.2.2.2.1 = 0 := ⟨(mi_at mi_behindLast).2.2.2.1, (mi_at mi_behindLast).1, (mi_at mi_behindLast).2.2.2.2⟩
theorem mi_keepFound : q_ms k_keepFound = (0, 11, prog_13_method_59_code, 2, none, 0, ⟨"PatternTrierModel", "keepFound", "()V"⟩) := rfl
theorem own_keepFound : (q_ms k_keepFound).2.1 = 11 := (mi_at mi_keepFound).1
theorem nl_keepFound : (q_ms k_keepFound).2.2.2.1 = 2 := (mi_at mi_keepFound).2.1
theorem rt_keepFound : (q_ms k_keepFound).2.2.2.2.1 = none := (mi_at mi_keepFound).2.2.1
theorem vk_keepFound : (q_ms k_keepFound).1 = 0 ∧ (q_ms k_keepFound).2.1 = 11 ∧ (q_ms k_keepFound).2.2.2.2.2.1 = 0 := ⟨(mi_at mi_keepFound).2.2.2.1, (mi_at mi_keepFound).1, (mi_at mi_keepFound).2.2.2.2⟩
theorem mi_found : q_ms k_found = (0, 11, prog_13_method_61_code, 3, (some ClassFile.FieldType.int), 2, ⟨"PatternTrierModel", "found", "(II)I"⟩) := rfl
theorem own_found : (q_ms k_found).2.1 = 11 := (mi_at mi_found).1
theorem nl_found : (q_ms k_found).2.2.2.1 = 3 := (mi_at mi_found).2.1
theorem rt_found : (q_ms k_found).2.2.2.2.1 = (some ClassFile.FieldType.int) := (mi_at mi_found).2.2.1
theorem vk_found : (q_ms k_found).1 = 0 ∧ (q_ms k_found).2.1 = 11 ∧ (q_ms k_found).2.2.2.2.2.1 = 2 := ⟨(mi_at mi_found).2.2.2.1, (mi_at mi_found).1, (mi_at mi_found).2.2.2.2⟩
theorem mi_replace : q_ms k_replace = (0, 11, prog_13_method_64_code, 6, (some ClassFile.FieldType.int), 2, ⟨"PatternTrierModel", "replace", "(II)I"⟩) := rfl
theorem own_replace : (q_ms k_replace).2.1 = 11 := (mi_at mi_replace).1
theorem nl_replace : (q_ms k_replace).2.2.2.1 = 6 := (mi_at mi_replace).2.1
theorem rt_replace : (q_ms k_replace).2.2.2.2.1 = (some ClassFile.FieldType.int) := (mi_at mi_replace).2.2.1
theorem vk_replace : (q_ms k_replace).1 = 0 ∧ (q_ms k_replace).2.1 = 11 ∧ (q_ms k_replace).2.2.2.2.2.1 = 2 := ⟨(mi_at mi_replace).2.2.2.1, (mi_at mi_replace).1, (mi_at mi_replace).2.2.2.2⟩
theorem mi_say : q_ms k_say = (0, 11, prog_13_method_62_code, 2, none, 1, ⟨"PatternTrierModel", "say", "(I)V"⟩) := rfl
theorem own_say : (q_ms k_say).2.1 = 11 := (mi_at mi_say).1
theorem nl_say : (q_ms k_say).2.2.2.1 = 2 := (mi_at mi_say).2.1
theorem rt_say : (q_ms k_say).2.2.2.2.1 = none := (mi_at mi_say).2.2.1
theorem vk_say : (q_ms k_say).1 = 0 ∧ (q_ms k_say).2.1 = 11 ∧ (q_ms k_say).2.2.2.2.2.1 = 1 := ⟨(mi_at mi_say).2.2.2.1, (mi_at mi_say).1, (mi_at mi_say).2.2.2.2⟩
theorem mi_substitute : q_ms k_substitute = (0, 11, prog_13_method_63_code, 4, none, 0, ⟨"PatternTrierModel", "substitute", "()V"⟩) := rfl
theorem own_substitute : (q_ms k_substitute).2.1 = 11 := (mi_at mi_substitute).1
theorem nl_substitute : (q_ms k_substitute).2.2.2.1 = 4 := (mi_at mi_substitute).2.1
theorem rt_substitute : (q_ms k_substitute).2.2.2.2.1 = none := (mi_at mi_substitute).2.2.1
theorem vk_substitute : (q_ms k_substitute).1 = 0 ∧ (q_ms k_substitute).2.1 = 11 ∧ (q_ms k_substitute).2.2.2.2.2.1 = 0 := ⟨(mi_at mi_substitute).2.2.2.1, (mi_at mi_substitute).1, (mi_at mi_substitute).2.2.2.2⟩
theorem mi_span : q_ms k_span = (0, 11, prog_13_method_66_code, 6, (some ClassFile.FieldType.int), 3, ⟨"PatternTrierModel", "span", "(III)I"⟩) := rfl
theorem own_span : (q_ms k_span).2.1 = 11 := (mi_at mi_span).1
theorem nl_span : (q_ms k_span).2.2.2.1 = 6 := (mi_at mi_span).2.1
theorem rt_span : (q_ms k_span).2.2.2.2.1 = (some ClassFile.FieldType.int) := (mi_at mi_span).2.2.1
theorem vk_span : (q_ms k_span).1 = 0 ∧ (q_ms k_span).2.1 = 11 ∧ (q_ms k_span).2.2.2.2.2.1 = 3 := ⟨(mi_at mi_span).2.2.2.1, (mi_at mi_span).1, (mi_at mi_span).2.2.2.2⟩
theorem mi_alone : q_ms k_alone = (0, 11, prog_13_method_65_code, 4, (some ClassFile.FieldType.int), 1, ⟨"PatternTrierModel", "alone", "(I)I"⟩) := rfl
theorem own_alone : (q_ms k_alone).2.1 = 11 := (mi_at mi_alone).1
theorem nl_alone : (q_ms k_alone).2.2.2.1 = 4 := (mi_at mi_alone).2.1
theorem rt_alone : (q_ms k_alone).2.2.2.2.1 = (some ClassFile.FieldType.int) := (mi_at mi_alone).2.2.1
theorem vk_alone : (q_ms k_alone).1 = 0 ∧ (q_ms k_alone).2.1 = 11 ∧ (q_ms k_alone).2.2.2.2.2.1 = 1 := ⟨(mi_at mi_alone).2.2.2.1, (mi_at mi_alone).1, (mi_at mi_alone).2.2.2.2⟩
theorem mi_word : q_ms k_word = (0, 11, prog_13_method_67_code, 6, (some ClassFile.FieldType.long), 2, ⟨"PatternTrierModel", "word", "(II)J"⟩) := rfl
theorem own_word : (q_ms k_word).2.1 = 11 := (mi_at mi_word).1
theorem nl_word : (q_ms k_word).2.2.2.1 = 6 := (mi_at mi_word).2.1
theorem rt_word : (q_ms k_word).2.2.2.2.1 = (some ClassFile.FieldType.long) := (mi_at mi_word).2.2.1
theorem vk_word : (q_ms k_word).1 = 0 ∧ (q_ms k_word).2.1 = 11 ∧ (q_ms k_word).2.2.2.2.2.1 = 2 := ⟨(mi_at mi_word).2.2.2.1, (mi_at mi_word).1, (mi_at mi_word).2.2.2.2⟩
theorem mi_count : q_ms k_count = (0, 11, prog_13_method_68_code, 2, (some ClassFile.FieldType.int), 1, ⟨"PatternTrierModel", "count", "(I)I"⟩) := rfl
theorem own_count : (q_ms k_count).2.1 = 11 := (mi_at mi_count).1
theorem nl_count : (q_ms k_count).2.2.2.1 = 2 := (mi_at mi_count).2.1
theorem rt_count : (q_ms k_count).2.2.2.2.1 = (some ClassFile.FieldType.int) := (mi_at mi_count).2.2.1
theorem vk_count : (q_ms k_count).1 = 0 ∧ (q_ms k_count).2.1 = 11 ∧ (q_ms k_count).2.2.2.2.2.1 = 1 := ⟨(mi_at mi_count).2.2.2.1, (mi_at mi_count).1, (mi_at mi_count).2.2.2.2⟩
def mfl : List (Nat × Nat) := [(7, 1), (13, 3), (17, 4), (20, 5), (23, 6), (26, 7), (29, 8), (32, 9), (35, 10), (38, 11), (41, 12), (44, 13), (47, 15), (50, 17), (53, 18), (56, 19), (59, 20), (62, 21), (65, 22), (68, 23), (71, 24), (74, 25), (78, 27), (82, 31), (85, 36), (88, 37), (91, 38), (94, 39), (97, 40), (100, 42), (103, 43), (106, 44), (109, 45), (112, 49), (115, 50), (118, 51), (121, 52), (124, 53), (127, 54), (130, 60), (133, 61), (136, 62), (139, 63), (143, 65), (147, 67), (150, 70), (153, 73), (156, 0), (159, 2), (174, 16), (177, 32), (183, 35), (245, 34), (207, 30), (180, 28), (186, 29), (210, 26), (213, 33), (200, 41), (360, 59), (389, 71), (283, 46), (308, 47), (286, 48), (292, 56), (289, 55), (324, 57), (327, 58), (295, 64), (318, 66), (333, 68), (336, 69), (392, 72), (395, 14), (407, 74), (410, 75)]
set_option maxRecDepth 100000 in
theorem mfl_ok : mfl.all (fun e => decide (q_fld 11 e.1 = some (11, e.2))) = true := by decide +kernel
theorem mf_at (n : Nat) {idx j : Nat} (h : mfl[n]? = some (idx, j)) : q_fld 11 idx = some (11, j) := of_decide_eq_true (List.all_eq_true.mp mfl_ok _ (List.mem_of_getElem? h))
def mml : List (Nat × Nat) := [(162, 160), (166, 161), (170, 163), (277, 165), (280, 166), (216, 167), (220, 169), (223, 170), (196, 168), (227, 172), (230, 174), (233, 178), (236, 175), (239, 177), (242, 173), (203, 171), (248, 176), (252, 179), (255, 180), (258, 181), (262, 182), (265, 187), (268, 183), (271, 184), (189, 185), (193, 186), (383, 190), (386, 200), (371, 191), (374, 192), (305, 195), (377, 198), (298, 193), (302, 194), (311, 196), (315, 197), (364, 199), (380, 201), (321, 202), (351, 203), (354, 204), (357, 210), (339, 205), (330, 206), (342, 207), (345, 208), (348, 209), (367, 211), (398, 214), (401, 215), (404, 216), (413, 219), (416, 220), (419, 222)]
set_option maxRecDepth 100000 in
theorem mml_ok : mml.all (fun e => decide (q_mth 11 e.1 = some e.2)) = true := by decide +kernel
theorem mm_at (n : Nat) {idx j : Nat} (h : mml[n]? = some (idx, j)) : q_mth 11 idx = some j := of_decide_eq_true (List.all_eq_true.mp mml_ok _ (List.mem_of_getElem? h))
def msl : List Nat := [170, 268, 271, 189, 193]
set_option maxRecDepth 100000 in
theorem msl_ok : msl.all (fun e => decide (q_mm 11 e = none) && decide (q_cpy 11 e = false)) = true := by decide +kernel
theorem ms_at (n : Nat) {idx : Nat} (h : msl[n]? = some idx) : q_mm 11 idx = none ∧ q_cpy 11 idx = false := by
  have := List.all_eq_true.mp msl_ok _ (List.mem_of_getElem? h)
  simpa using this
