/-! what the numbers in the classes' own tables stand for (written by wip/whole/gen_links.py out of tables_1) -/
/-- the tables, list by list -/
def q_tb : Nat → List Cond := fun k => match k with
  | 1 => tables_1_1
  | 2 => tables_1_2
  | 3 => tables_1_3
  | 4 => tables_1_4
  | 5 => tables_1_5
  | 6 => tables_1_6
  | 7 => tables_1_7
  | 8 => tables_1_8
  | _ => []
theorem q_tb_in {w : Cond} (k : Nat) (h : w ∈ q_tb k) : w ∈ tables_1 := by
  match k, h with
  | 1, h => exact List.mem_append_left _ h
  | 2, h => exact List.mem_append_right _ (List.mem_append_left _ h)
  | 3, h => exact List.mem_append_right _ (List.mem_append_right _ (List.mem_append_left _ h))
  | 4, h => exact List.mem_append_right _ (List.mem_append_right _ (List.mem_append_right _ (List.mem_append_left _ h)))
  | 5, h => exact List.mem_append_right _ (List.mem_append_right _ (List.mem_append_right _ (List.mem_append_right _ (List.mem_append_left _ h))))
  | 6, h => exact List.mem_append_right _ (List.mem_append_right _ (List.mem_append_right _ (List.mem_append_right _ (List.mem_append_right _ (List.mem_append_left _ h)))))
  | 7, h => exact List.mem_append_right _ (List.mem_append_right _ (List.mem_append_right _ (List.mem_append_right _ (List.mem_append_right _ (List.mem_append_right _ (List.mem_append_left _ h))))))
  | 8, h => exact List.mem_append_right _ (List.mem_append_right _ (List.mem_append_right _ (List.mem_append_right _ (List.mem_append_right _ (List.mem_append_right _ (List.mem_append_right _ (h)))))))
  | 0, h => cases h
  | k + 9, h => cases h
theorem GW_tk {w : Cond} (k i : Nat) (h : (q_tb k)[i]? = some w) (g : goodWord w = true) : w ∈ GW := GW_tb (q_tb_in k (List.mem_of_getElem? h)) g
def q_FL : List (Nat × Nat × Nat × Nat × Nat × Nat) := [(7, 9, 7, 0, 1, 54), (7, 15, 7, 1, 1, 55), (5, 11, 5, 0, 1, 62), (5, 15, 5, 1, 1, 63), (5, 18, 5, 2, 1, 64), (5, 21, 5, 3, 1, 65), (5, 24, 5, 4, 1, 66), (5, 27, 5, 5, 1, 67), (5, 33, 5, 6, 1, 68), (5, 47, 5, 7, 1, 69), (5, 50, 5, 8, 1, 70), (5, 61, 5, 9, 1, 71), (5, 37, 5, 10, 1, 72), (5, 41, 5, 11, 1, 73), (5, 44, 5, 12, 1, 74), (1, 15, 1, 0, 1, 113), (1, 21, 1, 1, 1, 114), (8, 11, 8, 0, 1, 132), (8, 15, 8, 1, 1, 133), (8, 18, 8, 2, 1, 134), (8, 21, 8, 3, 1, 135), (8, 24, 8, 4, 1, 136), (8, 27, 8, 5, 1, 137), (8, 30, 8, 6, 1, 138), (8, 36, 8, 7, 1, 139), (8, 40, 8, 8, 1, 140), (6, 9, 6, 0, 1, 166), (6, 15, 6, 1, 1, 167), (6, 28, 6, 2, 1, 168), (6, 19, 6, 3, 1, 169), (6, 44, 6, 4, 1, 170), (6, 31, 6, 5, 1, 171), (6, 34, 6, 6, 1, 172), (6, 37, 6, 7, 1, 173), (0, 9, 0, 0, 1, 197), (0, 15, 0, 1, 1, 198), (4, 9, 4, 0, 1, 216), (4, 13, 4, 1, 1, 217), (2, 9, 2, 0, 1, 229), (9, 12, 9, 0, 1, 233), (9, 21, 9, 1, 1, 234), (9, 25, 9, 2, 1, 235), (9, 29, 9, 3, 1, 236), (9, 33, 9, 4, 1, 237), (9, 37, 9, 5, 1, 238), (9, 92, 9, 6, 1, 239), (9, 96, 9, 7, 2, 0), (9, 99, 9, 8, 2, 1), (3, 9, 3, 0, 2, 27), (3, 15, 3, 1, 2, 28), (10, 12, 10, 0, 2, 34), (10, 18, 10, 1, 2, 35), (10, 25, 10, 2, 2, 36), (10, 48, 10, 3, 2, 37), (10, 57, 10, 4, 2, 38), (10, 66, 10, 5, 2, 39), (10, 75, 10, 6, 2, 40), (10, 42, 10, 7, 2, 41), (10, 35, 10, 8, 2, 42), (10, 39, 10, 9, 2, 43), (10, 82, 10, 10, 2, 44), (10, 86, 10, 11, 2, 45), (10, 89, 10, 12, 2, 46), (11, 156, 11, 0, 6, 198), (11, 7, 11, 1, 6, 199), (11, 159, 11, 2, 6, 200), (11, 13, 11, 3, 6, 201), (11, 17, 11, 4, 6, 202), (11, 20, 11, 5, 6, 203), (11, 23, 11, 6, 6, 204), (11, 26, 11, 7, 6, 205), (11, 29, 11, 8, 6, 206), (11, 32, 11, 9, 6, 207), (11, 35, 11, 10, 6, 208), (11, 38, 11, 11, 6, 209), (11, 41, 11, 12, 6, 210), (11, 44, 11, 13, 6, 211), (11, 395, 11, 14, 6, 212), (11, 47, 11, 15, 6, 213), (11, 174, 11, 16, 6, 214), (11, 50, 11, 17, 6, 215), (11, 53, 11, 18, 6, 216), (11, 56, 11, 19, 6, 217), (11, 59, 11, 20, 6, 218), (11, 62, 11, 21, 6, 219), (11, 65, 11, 22, 6, 220), (11, 68, 11, 23, 6, 221), (11, 71, 11, 24, 6, 222), (11, 74, 11, 25, 6, 223), (11, 210, 11, 26, 6, 224), (11, 78, 11, 27, 6, 225), (11, 180, 11, 28, 6, 226), (11, 186, 11, 29, 6, 227), (11, 207, 11, 30, 6, 228), (11, 82, 11, 31, 6, 229), (11, 177, 11, 32, 6, 230), (11, 213, 11, 33, 6, 231), (11, 245, 11, 34, 6, 232), (11, 183, 11, 35, 6, 233), (11, 85, 11, 36, 6, 234), (11, 88, 11, 37, 6, 235), (11, 91, 11, 38, 6, 236), (11, 94, 11, 39, 6, 237), (11, 97, 11, 40, 6, 238), (11, 200, 11, 41, 6, 239), (11, 100, 11, 42, 7, 0), (11, 103, 11, 43, 7, 1), (11, 106, 11, 44, 7, 2), (11, 109, 11, 45, 7, 3), (11, 283, 11, 46, 7, 4), (11, 308, 11, 47, 7, 5), (11, 286, 11, 48, 7, 6), (11, 112, 11, 49, 7, 7), (11, 115, 11, 50, 7, 8), (11, 118, 11, 51, 7, 9), (11, 121, 11, 52, 7, 10), (11, 124, 11, 53, 7, 11), (11, 127, 11, 54, 7, 12), (11, 289, 11, 55, 7, 13), (11, 292, 11, 56, 7, 14), (11, 324, 11, 57, 7, 15), (11, 327, 11, 58, 7, 16), (11, 360, 11, 59, 7, 17), (11, 130, 11, 60, 7, 18), (11, 133, 11, 61, 7, 19), (11, 136, 11, 62, 7, 20), (11, 139, 11, 63, 7, 21), (11, 295, 11, 64, 7, 22), (11, 143, 11, 65, 7, 23), (11, 318, 11, 66, 7, 24), (11, 147, 11, 67, 7, 25), (11, 333, 11, 68, 7, 26), (11, 336, 11, 69, 7, 27), (11, 150, 11, 70, 7, 28), (11, 389, 11, 71, 7, 29), (11, 392, 11, 72, 7, 30), (11, 153, 11, 73, 7, 31), (11, 407, 11, 74, 7, 32), (11, 410, 11, 75, 7, 33)]
def q_fld (o i : Nat) : Option (Nat × Nat) := (q_FL.find? (fun e => e.1 == o && e.2.1 == i)).map (fun e => (e.2.2.1, e.2.2.2.1))
set_option maxRecDepth 100000 in
theorem q_FL_ok : q_FL.all (fun e => decide (e.2.2.1 < 12) && (decide (e.2.2.2.1 < qN e.2.2.1) && decide ((q_tb e.2.2.2.2.1)[e.2.2.2.2.2]? = some (Cond.fieldLink (oN e.1) e.2.1 (qF e.2.2.1 e.2.2.2.1).1 (qF e.2.2.1 e.2.2.2.1).2.1 (qF e.2.2.1 e.2.2.2.1).2.2.1)))) = true := by decide +kernel
theorem q_fld_ok {o i k j : Nat} (h : q_fld o i = some (k, j)) : k < 12 ∧ j < qN k ∧ Cond.fieldLink (oN o) i (qF k j).1 (qF k j).2.1 (qF k j).2.2.1 ∈ GW := by
  unfold q_fld at h
  obtain ⟨e, he, h2⟩ := Option.map_eq_some_iff.mp h
  have h3 := List.all_eq_true.mp q_FL_ok e (List.mem_of_find?_eq_some he)
  have h4 := List.find?_some he
  simp only [Bool.and_eq_true, decide_eq_true_eq, beq_iff_eq] at h3 h4
  cases h2
  obtain ⟨h5, h6, h7⟩ := h3
  rw [h4.1, h4.2] at h7
  exact ⟨h5, h6, GW_tk _ _ h7 rfl⟩
def q_CL : List (Nat × Nat × Nat × Nat × Nat) := [(12, 8, 10, 1, 34), (10, 9, 5, 1, 42), (5, 30, 7, 1, 48), (10, 16, 1, 1, 103), (10, 45, 8, 1, 124), (8, 33, 7, 1, 130), (10, 52, 6, 1, 160), (10, 61, 0, 1, 191), (10, 70, 9, 1, 204), (9, 9, 4, 1, 210), (9, 18, 2, 1, 223), (10, 79, 3, 2, 21), (12, 64, 11, 6, 190)]
def q_cls (o i : Nat) : Option Nat := (q_CL.find? (fun e => e.1 == o && e.2.1 == i)).map (fun e => e.2.2.1)
set_option maxRecDepth 100000 in
theorem q_CL_ok : q_CL.all (fun e => decide (e.2.2.1 < 12) && decide ((q_tb e.2.2.2.1)[e.2.2.2.2]? = some (Cond.classLink (oN e.1) e.2.1 (qC e.2.2.1)))) = true := by decide +kernel
set_option maxRecDepth 100000 in
theorem q_inst : ∀ k, k < 12 → Cond.instantiable (qC k) (qN k) ∈ GW ∧ Cond.initialized (qC k) ∈ GW := q_lt12 ⟨GW_tk 1 192 (by decide +kernel) rfl, GW_tk 1 9 (by decide +kernel) rfl⟩ ⟨GW_tk 1 105 (by decide +kernel) rfl, GW_tk 1 4 (by decide +kernel) rfl⟩ ⟨GW_tk 1 224 (by decide +kernel) rfl, GW_tk 1 12 (by decide +kernel) rfl⟩ ⟨GW_tk 2 22 (by decide +kernel) rfl, GW_tk 1 13 (by decide +kernel) rfl⟩ ⟨GW_tk 1 211 (by decide +kernel) rfl, GW_tk 1 11 (by decide +kernel) rfl⟩ ⟨GW_tk 1 43 (by decide +kernel) rfl, GW_tk 1 2 (by decide +kernel) rfl⟩ ⟨GW_tk 1 161 (by decide +kernel) rfl, GW_tk 1 8 (by decide +kernel) rfl⟩ ⟨GW_tk 1 49 (by decide +kernel) rfl, GW_tk 1 3 (by decide +kernel) rfl⟩ ⟨GW_tk 1 125 (by decide +kernel) rfl, GW_tk 1 7 (by decide +kernel) rfl⟩ ⟨GW_tk 1 205 (by decide +kernel) rfl, GW_tk 1 10 (by decide +kernel) rfl⟩ ⟨GW_tk 1 35 (by decide +kernel) rfl, GW_tk 1 1 (by decide +kernel) rfl⟩ ⟨GW_tk 6 191 (by decide +kernel) rfl, GW_tk 1 14 (by decide +kernel) rfl⟩
theorem q_cls_ok {o i k : Nat} (h : q_cls o i = some k) : k < 12 ∧ Cond.classLink (oN o) i (qC k) ∈ GW := by
  unfold q_cls at h
  obtain ⟨e, he, h2⟩ := Option.map_eq_some_iff.mp h
  have h3 := List.all_eq_true.mp q_CL_ok e (List.mem_of_find?_eq_some he)
  have h4 := List.find?_some he
  simp only [Bool.and_eq_true, decide_eq_true_eq, beq_iff_eq] at h3 h4
  cases h2
  obtain ⟨h5, h7⟩ := h3
  rw [h4.1, h4.2] at h7
  exact ⟨h5, GW_tk _ _ h7 rfl⟩
def q_KL : List (Nat × Nat × Int32 × Nat × Nat) := [(2, 13, 65536, 4, 83), (9, 102, 1000000000, 5, 132), (4, 17, 1048576, 5, 198), (11, 142, 2500000, 6, 196), (11, 146, 80000, 6, 197), (11, 251, 100000, 8, 24)]
def q_con (o i : Nat) : Option Int32 := (q_KL.find? (fun e => e.1 == o && e.2.1 == i)).map (fun e => e.2.2.1)
set_option maxRecDepth 100000 in
theorem q_KL_ok : q_KL.all (fun e => decide ((q_tb e.2.2.2.1)[e.2.2.2.2]? = some (Cond.constant (oN e.1) e.2.1 e.2.2.1))) = true := by decide +kernel
theorem q_con_ok {o i : Nat} {v : Int32} (h : q_con o i = some v) : Cond.constant (oN o) i v ∈ GW := by
  unfold q_con at h
  obtain ⟨e, he, h2⟩ := Option.map_eq_some_iff.mp h
  have h3 := List.all_eq_true.mp q_KL_ok e (List.mem_of_find?_eq_some he)
  have h4 := List.find?_some he
  simp only [Bool.and_eq_true, decide_eq_true_eq, beq_iff_eq] at h3 h4
  cases h2
  rw [h4.1, h4.2] at h3
  exact GW_tk _ _ h3 rfl
def q_KJ : List (Nat × Nat × Int64 × Nat × Nat) := [(11, 275, -1, 8, 65)]
def q_conL (o i : Nat) : Option Int64 := (q_KJ.find? (fun e => e.1 == o && e.2.1 == i)).map (fun e => e.2.2.1)
set_option maxRecDepth 100000 in
theorem q_KJ_ok : q_KJ.all (fun e => decide ((q_tb e.2.2.2.1)[e.2.2.2.2]? = some (Cond.constantLong (oN e.1) e.2.1 e.2.2.1))) = true := by decide +kernel
theorem q_conL_ok {o i : Nat} {v : Int64} (h : q_conL o i = some v) : Cond.constantLong (oN o) i v ∈ GW := by
  unfold q_conL at h
  obtain ⟨e, he, h2⟩ := Option.map_eq_some_iff.mp h
  have h3 := List.all_eq_true.mp q_KJ_ok e (List.mem_of_find?_eq_some he)
  have h4 := List.find?_some he
  simp only [Bool.and_eq_true, decide_eq_true_eq, beq_iff_eq] at h3 h4
  cases h2
  rw [h4.1, h4.2] at h3
  exact GW_tk _ _ h3 rfl
def q_OB : List (Nat × Nat × Nat × Nat) := [(10, 3, 1, 39), (5, 3, 1, 47), (7, 3, 1, 53), (1, 3, 1, 109), (8, 3, 1, 129), (6, 3, 1, 165), (0, 3, 1, 196), (9, 3, 1, 209), (4, 1, 1, 215), (2, 1, 1, 228), (3, 3, 2, 26), (11, 1, 6, 195)]
def q_obj (o i : Nat) : Bool := (q_OB.find? (fun e => e.1 == o && e.2.1 == i)).isSome
set_option maxRecDepth 100000 in
theorem q_OB_ok : q_OB.all (fun e => decide ((q_tb e.2.2.1)[e.2.2.2]? = some (Cond.methodLink (oN e.1) e.2.1 objectInit))) = true := by decide +kernel
theorem q_obj_ok {o i : Nat} (h : q_obj o i = true) : Cond.methodLink (oN o) i objectInit ∈ GW := by
  unfold q_obj at h
  obtain ⟨e, he⟩ := Option.isSome_iff_exists.mp h
  have h3 := List.all_eq_true.mp q_OB_ok e (List.mem_of_find?_eq_some he)
  have h4 := List.find?_some he
  simp only [Bool.and_eq_true, decide_eq_true_eq, beq_iff_eq] at h3 h4
  rw [h4.1, h4.2] at h3
  exact GW_tk _ _ h3 rfl
def q_CP : List (Nat × Nat × Nat × Nat) := [(7, 39, 4, 2), (1, 29, 4, 40), (13, 150, 4, 164), (9, 81, 6, 37)]
def q_cpy (o i : Nat) : Bool := (q_CP.find? (fun e => e.1 == o && e.2.1 == i)).isSome
set_option maxRecDepth 100000 in
theorem q_CP_ok : q_CP.all (fun e => decide ((q_tb e.2.2.1)[e.2.2.2]? = some (Cond.methodLink (oN e.1) e.2.1 arraycopyName))) = true := by decide +kernel
theorem q_cpy_ok {o i : Nat} (h : q_cpy o i = true) : Cond.methodLink (oN o) i arraycopyName ∈ GW := by
  unfold q_cpy at h
  obtain ⟨e, he⟩ := Option.isSome_iff_exists.mp h
  have h3 := List.all_eq_true.mp q_CP_ok e (List.mem_of_find?_eq_some he)
  have h4 := List.find?_some he
  simp only [Bool.and_eq_true, decide_eq_true_eq, beq_iff_eq] at h3 h4
  rw [h4.1, h4.2] at h3
  exact GW_tk _ _ h3 rfl
def q_MX : List (Nat × Nat × Bool × Nat × Nat) := [(1, 9, true, 1, 110), (8, 51, false, 3, 44), (6, 158, false, 3, 115), (7, 30, true, 4, 0), (7, 36, false, 4, 1), (2, 14, true, 4, 84), (2, 20, false, 4, 85), (13, 304, false, 4, 163), (4, 41, true, 6, 9), (4, 47, false, 6, 10), (9, 75, false, 6, 36), (10, 248, true, 6, 177)]
def q_mm (o i : Nat) : Option Bool := (q_MX.find? (fun e => e.1 == o && e.2.1 == i)).map (fun e => e.2.2.1)
set_option maxRecDepth 100000 in
theorem q_MX_ok : q_MX.all (fun e => decide ((q_tb e.2.2.2.1)[e.2.2.2.2]? = some (Cond.methodLink (oN e.1) e.2.1 (if e.2.2.1 = true then Lib.Math.max.name else Lib.Math.min.name)))) = true := by decide +kernel
theorem q_mm_ok {o i : Nat} {b : Bool} (h : q_mm o i = some b) : Cond.methodLink (oN o) i (if b = true then Lib.Math.max.name else Lib.Math.min.name) ∈ GW := by
  unfold q_mm at h
  obtain ⟨e, he, h2⟩ := Option.map_eq_some_iff.mp h
  have h3 := List.all_eq_true.mp q_MX_ok e (List.mem_of_find?_eq_some he)
  have h4 := List.find?_some he
  simp only [Bool.and_eq_true, decide_eq_true_eq, beq_iff_eq] at h3 h4
  cases h2
  rw [h4.1, h4.2] at h3
  exact GW_tk _ _ h3 rfl
/-- a method: its kind of call (0 virtual, 1 static, 2 <init>, 3 static of the nest), its class, code, locals, answer, parameters, name -/
abbrev qM : Type := Nat × Nat × ByteArray × Nat × Option ClassFile.FieldType × Nat × MethodName
def q_ms : Nat → qM := fun k => match k with
  | 0 => (2, 10, prog_1_method_1_code, 3, none, 0, ⟨"PatternTrier", "<init>", "()V"⟩)
  | 1 => (2, 5, prog_7_method_1_code, 1, none, 0, ⟨"PatternTrier$Program", "<init>", "()V"⟩)
  | 2 => (2, 7, prog_9_method_1_code, 1, none, 0, ⟨"PatternTrier$Sets", "<init>", "()V"⟩)
  | 3 => (2, 1, prog_3_method_1_code, 2, none, 1, ⟨"PatternTrier$Bytes", "<init>", "(I)V"⟩)
  | 4 => (1, 13, prog_32_method_103_code, 4, none, 2, ⟨"java/util/Arrays", "fill", "([II)V"⟩)
  | 5 => (2, 8, prog_10_method_1_code, 1, none, 0, ⟨"PatternTrier$Tree", "<init>", "()V"⟩)
  | 6 => (2, 6, prog_8_method_1_code, 3, none, 2, ⟨"PatternTrier$Reader", "<init>", "(LPatternTrier$Tree;LPatternTrier$Bytes;)V"⟩)
  | 7 => (2, 0, prog_2_method_1_code, 3, none, 2, ⟨"PatternTrier$Builder", "<init>", "(LPatternTrier$Tree;LPatternTrier$Program;)V"⟩)
  | 8 => (2, 9, prog_11_method_1_code, 3, none, 2, ⟨"PatternTrier$Walker", "<init>", "(LPatternTrier$Program;LPatternTrier$Bytes;)V"⟩)
  | 9 => (2, 4, prog_6_method_1_code, 1, none, 0, ⟨"PatternTrier$Pile", "<init>", "()V"⟩)
  | 10 => (2, 2, prog_4_method_1_code, 1, none, 0, ⟨"PatternTrier$Failures", "<init>", "()V"⟩)
  | 11 => (2, 3, prog_5_method_1_code, 1, none, 0, ⟨"PatternTrier$Found", "<init>", "()V"⟩)
  | 12 => (0, 10, prog_1_method_2_code, 6, (some ClassFile.FieldType.int), 5, ⟨"PatternTrier", "feed", "(IIIII)I"⟩)
  | 13 => (0, 1, prog_3_method_3_code, 1, (some ClassFile.FieldType.int), 0, ⟨"PatternTrier$Bytes", "room", "()I"⟩)
  | 14 => (0, 10, prog_1_method_14_code, 3, none, 1, ⟨"PatternTrier", "feedInt", "(I)V"⟩)
  | 15 => (0, 1, prog_3_method_5_code, 2, (some ClassFile.FieldType.boolean), 1, ⟨"PatternTrier$Bytes", "add", "(I)Z"⟩)
  | 16 => (0, 1, prog_3_method_2_code, 1, (some ClassFile.FieldType.int), 0, ⟨"PatternTrier$Bytes", "size", "()I"⟩)
  | 17 => (0, 10, prog_1_method_3_code, 2, (some ClassFile.FieldType.int), 1, ⟨"PatternTrier", "end", "(I)I"⟩)
  | 18 => (0, 1, prog_3_method_7_code, 2, none, 1, ⟨"PatternTrier$Bytes", "cut", "(I)V"⟩)
  | 19 => (0, 10, prog_1_method_4_code, 4, (some ClassFile.FieldType.int), 1, ⟨"PatternTrier", "pattern", "(I)I"⟩)
  | 20 => (0, 10, prog_1_method_15_code, 2, (some (ClassFile.FieldType.object "PatternTrier$Bytes")), 0, ⟨"PatternTrier", "takeTape", "()LPatternTrier$Bytes;"⟩)
  | 21 => (0, 10, prog_1_method_17_code, 2, (some (ClassFile.FieldType.object "PatternTrier$Program")), 1, ⟨"PatternTrier", "programAt", "(I)LPatternTrier$Program;"⟩)
  | 22 => (0, 6, prog_8_method_2_code, 2, (some ClassFile.FieldType.int), 1, ⟨"PatternTrier$Reader", "read", "(LPatternTrier$Bytes;)I"⟩)
  | 23 => (0, 8, prog_10_method_2_code, 1, none, 0, ⟨"PatternTrier$Tree", "clear", "()V"⟩)
  | 24 => (0, 7, prog_9_method_2_code, 1, none, 0, ⟨"PatternTrier$Sets", "clear", "()V"⟩)
  | 25 => (0, 6, prog_8_method_8_code, 6, (some ClassFile.FieldType.int), 1, ⟨"PatternTrier$Reader", "readWays", "(I)I"⟩)
  | 26 => (0, 6, prog_8_method_9_code, 6, (some ClassFile.FieldType.int), 1, ⟨"PatternTrier$Reader", "readRow", "(I)I"⟩)
  | 27 => (0, 6, prog_8_method_6_code, 1, (some ClassFile.FieldType.boolean), 0, ⟨"PatternTrier$Reader", "isBroken", "()Z"⟩)
  | 28 => (0, 6, prog_8_method_7_code, 4, (some ClassFile.FieldType.int), 1, ⟨"PatternTrier$Reader", "see", "(I)I"⟩)
  | 29 => (0, 1, prog_3_method_4_code, 2, (some ClassFile.FieldType.int), 1, ⟨"PatternTrier$Bytes", "at", "(I)I"⟩)
  | 30 => (1, 6, prog_8_method_10_code, 1, (some ClassFile.FieldType.boolean), 1, ⟨"PatternTrier$Reader", "isRowEnd", "(I)Z"⟩)
  | 31 => (0, 6, prog_8_method_11_code, 5, (some ClassFile.FieldType.int), 1, ⟨"PatternTrier$Reader", "readPart", "(I)I"⟩)
  | 32 => (0, 6, prog_8_method_13_code, 3, (some ClassFile.FieldType.int), 1, ⟨"PatternTrier$Reader", "readAtom", "(I)I"⟩)
  | 33 => (0, 6, prog_8_method_20_code, 7, (some ClassFile.FieldType.int), 1, ⟨"PatternTrier$Reader", "readBracket", "(I)I"⟩)
  | 34 => (0, 6, prog_8_method_21_code, 1, (some ClassFile.FieldType.int), 0, ⟨"PatternTrier$Reader", "bracketKind", "()I"⟩)
  | 35 => (0, 6, prog_8_method_5_code, 2, none, 1, ⟨"PatternTrier$Reader", "breakAt", "(I)V"⟩)
  | 36 => (0, 8, prog_10_method_12_code, 2, (some ClassFile.FieldType.int), 1, ⟨"PatternTrier$Tree", "weightOf", "(I)I"⟩)
  | 37 => (3, 10, prog_1_method_28_code, 2, (some ClassFile.FieldType.int), 2, ⟨"PatternTrier", "cell", "([II)I"⟩)
  | 38 => (0, 8, prog_10_method_3_code, 6, (some ClassFile.FieldType.int), 4, ⟨"PatternTrier$Tree", "add", "(IIII)I"⟩)
  | 39 => (3, 10, prog_1_method_29_code, 3, none, 3, ⟨"PatternTrier", "put", "([III)V"⟩)
  | 40 => (0, 6, prog_8_method_17_code, 4, (some ClassFile.FieldType.int), 0, ⟨"PatternTrier$Reader", "readSet", "()I"⟩)
  | 41 => (0, 8, prog_10_method_13_code, 1, (some (ClassFile.FieldType.object "PatternTrier$Sets")), 0, ⟨"PatternTrier$Tree", "sets", "()LPatternTrier$Sets;"⟩)
  | 42 => (0, 7, prog_9_method_3_code, 3, (some ClassFile.FieldType.int), 0, ⟨"PatternTrier$Sets", "open", "()I"⟩)
  | 43 => (0, 6, prog_8_method_18_code, 3, none, 1, ⟨"PatternTrier$Reader", "readMember", "(I)V"⟩)
  | 44 => (0, 6, prog_8_method_19_code, 4, none, 2, ⟨"PatternTrier$Reader", "readEscapedMember", "(II)V"⟩)
  | 45 => (1, 6, prog_8_method_16_code, 1, (some ClassFile.FieldType.int), 1, ⟨"PatternTrier$Reader", "classOf", "(I)I"⟩)
  | 46 => (0, 7, prog_9_method_5_code, 7, none, 3, ⟨"PatternTrier$Sets", "addClass", "(IIZ)V"⟩)
  | 47 => (3, 10, prog_1_method_27_code, 1, (some ClassFile.FieldType.boolean), 1, ⟨"PatternTrier", "isLetter", "(I)Z"⟩)
  | 48 => (3, 10, prog_1_method_26_code, 1, (some ClassFile.FieldType.boolean), 1, ⟨"PatternTrier", "isDigit", "(I)Z"⟩)
  | 49 => (0, 7, prog_9_method_4_code, 6, none, 3, ⟨"PatternTrier$Sets", "addRange", "(III)V"⟩)
  | 50 => (0, 7, prog_9_method_6_code, 4, none, 1, ⟨"PatternTrier$Sets", "turnRound", "(I)V"⟩)
  | 51 => (0, 6, prog_8_method_14_code, 3, (some ClassFile.FieldType.int), 0, ⟨"PatternTrier$Reader", "readEscape", "()I"⟩)
  | 52 => (0, 6, prog_8_method_15_code, 4, (some ClassFile.FieldType.int), 2, ⟨"PatternTrier$Reader", "addClass", "(IZ)I"⟩)
  | 53 => (1, 6, prog_8_method_12_code, 1, (some ClassFile.FieldType.boolean), 1, ⟨"PatternTrier$Reader", "isQuantifier", "(I)Z"⟩)
  | 54 => (0, 8, prog_10_method_6_code, 2, (some ClassFile.FieldType.int), 1, ⟨"PatternTrier$Tree", "kindOf", "(I)I"⟩)
  | 55 => (0, 6, prog_8_method_22_code, 7, (some ClassFile.FieldType.int), 2, ⟨"PatternTrier$Reader", "readRounds", "(IZ)I"⟩)
  | 56 => (0, 6, prog_8_method_24_code, 5, (some ClassFile.FieldType.int), 1, ⟨"PatternTrier$Reader", "readNumber", "(I)I"⟩)
  | 57 => (0, 6, prog_8_method_23_code, 3, (some ClassFile.FieldType.int), 1, ⟨"PatternTrier$Reader", "readMost", "(I)I"⟩)
  | 58 => (0, 8, prog_10_method_4_code, 8, (some ClassFile.FieldType.int), 4, ⟨"PatternTrier$Tree", "addRounds", "(IIII)I"⟩)
  | 59 => (0, 8, prog_10_method_5_code, 3, none, 2, ⟨"PatternTrier$Tree", "chain", "(II)V"⟩)
  | 60 => (0, 6, prog_8_method_3_code, 1, (some ClassFile.FieldType.int), 0, ⟨"PatternTrier$Reader", "root", "()I"⟩)
  | 61 => (0, 6, prog_8_method_4_code, 1, (some ClassFile.FieldType.int), 0, ⟨"PatternTrier$Reader", "groups", "()I"⟩)
  | 62 => (0, 0, prog_2_method_2_code, 5, none, 3, ⟨"PatternTrier$Builder", "build", "(LPatternTrier$Program;II)V"⟩)
  | 63 => (0, 5, prog_7_method_2_code, 1, none, 0, ⟨"PatternTrier$Program", "clear", "()V"⟩)
  | 64 => (0, 5, prog_7_method_3_code, 6, (some ClassFile.FieldType.int), 4, ⟨"PatternTrier$Program", "add", "(IIII)I"⟩)
  | 65 => (0, 0, prog_2_method_3_code, 9, (some ClassFile.FieldType.int), 4, ⟨"PatternTrier$Builder", "buildWays", "(IIII)I"⟩)
  | 66 => (0, 8, prog_10_method_8_code, 2, (some ClassFile.FieldType.int), 1, ⟨"PatternTrier$Tree", "innerOf", "(I)I"⟩)
  | 67 => (0, 0, prog_2_method_4_code, 8, (some ClassFile.FieldType.int), 4, ⟨"PatternTrier$Builder", "buildRow", "(IIII)I"⟩)
  | 68 => (0, 0, prog_2_method_5_code, 6, (some ClassFile.FieldType.int), 4, ⟨"PatternTrier$Builder", "buildPart", "(IIII)I"⟩)
  | 69 => (0, 0, prog_2_method_8_code, 7, (some ClassFile.FieldType.int), 4, ⟨"PatternTrier$Builder", "buildRounds", "(IIII)I"⟩)
  | 70 => (0, 8, prog_10_method_7_code, 2, (some ClassFile.FieldType.int), 1, ⟨"PatternTrier$Tree", "valueOf", "(I)I"⟩)
  | 71 => (0, 0, prog_2_method_10_code, 10, (some ClassFile.FieldType.int), 4, ⟨"PatternTrier$Builder", "buildMore", "(IIII)I"⟩)
  | 72 => (0, 8, prog_10_method_11_code, 2, (some ClassFile.FieldType.int), 1, ⟨"PatternTrier$Tree", "mostOf", "(I)I"⟩)
  | 73 => (0, 0, prog_2_method_11_code, 5, none, 4, ⟨"PatternTrier$Builder", "branch", "(IIIZ)V"⟩)
  | 74 => (0, 5, prog_7_method_4_code, 4, none, 3, ⟨"PatternTrier$Program", "branch", "(III)V"⟩)
  | 75 => (0, 8, prog_10_method_10_code, 2, (some ClassFile.FieldType.int), 1, ⟨"PatternTrier$Tree", "leastOf", "(I)I"⟩)
  | 76 => (0, 0, prog_2_method_9_code, 7, (some ClassFile.FieldType.int), 4, ⟨"PatternTrier$Builder", "buildLeast", "(IIII)I"⟩)
  | 77 => (0, 0, prog_2_method_6_code, 8, (some ClassFile.FieldType.int), 4, ⟨"PatternTrier$Builder", "buildGroup", "(IIII)I"⟩)
  | 78 => (0, 0, prog_2_method_7_code, 6, (some ClassFile.FieldType.int), 4, ⟨"PatternTrier$Builder", "buildAhead", "(IIII)I"⟩)
  | 79 => (0, 8, prog_10_method_9_code, 2, (some ClassFile.FieldType.int), 1, ⟨"PatternTrier$Tree", "beforeOf", "(I)I"⟩)
  | 80 => (0, 5, prog_7_method_5_code, 5, none, 4, ⟨"PatternTrier$Program", "finish", "(ILPatternTrier$Tree;II)V"⟩)
  | 81 => (0, 7, prog_9_method_8_code, 3, none, 1, ⟨"PatternTrier$Sets", "copy", "(LPatternTrier$Sets;)V"⟩)
  | 82 => (0, 8, prog_10_method_14_code, 5, (some ClassFile.FieldType.int), 1, ⟨"PatternTrier$Tree", "onlySet", "(I)I"⟩)
  | 83 => (0, 5, prog_7_method_15_code, 1, (some ClassFile.FieldType.int), 0, ⟨"PatternTrier$Program", "weight", "()I"⟩)
  | 84 => (0, 10, prog_1_method_5_code, 4, (some ClassFile.FieldType.int), 1, ⟨"PatternTrier", "text", "(I)I"⟩)
  | 85 => (0, 10, prog_1_method_18_code, 2, (some (ClassFile.FieldType.object "PatternTrier$Bytes")), 1, ⟨"PatternTrier", "textAt", "(I)LPatternTrier$Bytes;"⟩)
  | 86 => (0, 1, prog_3_method_8_code, 2, none, 1, ⟨"PatternTrier$Bytes", "copy", "(LPatternTrier$Bytes;)V"⟩)
  | 87 => (0, 1, prog_3_method_6_code, 5, (some ClassFile.FieldType.boolean), 3, ⟨"PatternTrier$Bytes", "addPart", "(LPatternTrier$Bytes;II)Z"⟩)
  | 88 => (0, 10, prog_1_method_6_code, 9, (some ClassFile.FieldType.int), 4, ⟨"PatternTrier", "match", "(IIII)I"⟩)
  | 89 => (1, 10, prog_1_method_20_code, 1, none, 1, ⟨"PatternTrier", "needPattern", "(LPatternTrier$Program;)V"⟩)
  | 90 => (0, 9, prog_11_method_2_code, 4, none, 3, ⟨"PatternTrier$Walker", "prepare", "(LPatternTrier$Program;LPatternTrier$Bytes;Z)V"⟩)
  | 91 => (0, 5, prog_7_method_13_code, 1, (some ClassFile.FieldType.int), 0, ⟨"PatternTrier$Program", "slots", "()I"⟩)
  | 92 => (0, 2, prog_4_method_2_code, 5, none, 1, ⟨"PatternTrier$Failures", "clear", "(I)V"⟩)
  | 93 => (1, 13, prog_32_method_104_code, 5, none, 4, ⟨"java/util/Arrays", "fill", "([IIII)V"⟩)
  | 94 => (1, 13, prog_32_method_30_code, 3, none, 3, ⟨"java/util/Arrays", "rangeCheck", "(III)V"⟩)
  | 95 => (1, 13, prog_32_method_133_code, 5, (some (ClassFile.FieldType.array ClassFile.FieldType.byte)), 3, ⟨"java/util/Arrays", "copyOfRangeByte", "([BII)[B"⟩)
  | 96 => (1, 13, prog_32_method_131_code, 2, none, 2, ⟨"java/util/Arrays", "checkLength", "(II)V"⟩)
  | 97 => (0, 9, prog_11_method_3_code, 5, (some ClassFile.FieldType.boolean), 2, ⟨"PatternTrier$Walker", "tryPlaces", "(II)Z"⟩)
  | 98 => (0, 4, prog_6_method_8_code, 1, none, 0, ⟨"PatternTrier$Pile", "clear", "()V"⟩)
  | 99 => (0, 5, prog_7_method_14_code, 1, (some ClassFile.FieldType.int), 0, ⟨"PatternTrier$Program", "entry", "()I"⟩)
  | 100 => (0, 9, prog_11_method_7_code, 7, (some ClassFile.FieldType.int), 3, ⟨"PatternTrier$Walker", "walk", "(III)I"⟩)
  | 101 => (0, 4, prog_6_method_7_code, 1, (some ClassFile.FieldType.int), 0, ⟨"PatternTrier$Pile", "size", "()I"⟩)
  | 102 => (0, 9, prog_11_method_8_code, 3, (some ClassFile.FieldType.boolean), 1, ⟨"PatternTrier$Walker", "advance", "(I)Z"⟩)
  | 103 => (0, 5, prog_7_method_8_code, 2, (some ClassFile.FieldType.int), 1, ⟨"PatternTrier$Program", "valueOf", "(I)I"⟩)
  | 104 => (0, 5, prog_7_method_7_code, 2, (some ClassFile.FieldType.int), 1, ⟨"PatternTrier$Program", "kindOf", "(I)I"⟩)
  | 105 => (0, 9, prog_11_method_10_code, 1, (some ClassFile.FieldType.boolean), 0, ⟨"PatternTrier$Walker", "take", "()Z"⟩)
  | 106 => (0, 5, prog_7_method_11_code, 2, (some ClassFile.FieldType.int), 1, ⟨"PatternTrier$Program", "depthOf", "(I)I"⟩)
  | 107 => (0, 9, prog_11_method_9_code, 1, (some ClassFile.FieldType.boolean), 0, ⟨"PatternTrier$Walker", "pass", "()Z"⟩)
  | 108 => (0, 5, prog_7_method_9_code, 2, (some ClassFile.FieldType.int), 1, ⟨"PatternTrier$Program", "nextOf", "(I)I"⟩)
  | 109 => (0, 5, prog_7_method_6_code, 3, (some ClassFile.FieldType.boolean), 2, ⟨"PatternTrier$Program", "holds", "(II)Z"⟩)
  | 110 => (0, 7, prog_9_method_7_code, 3, (some ClassFile.FieldType.boolean), 2, ⟨"PatternTrier$Sets", "holds", "(II)Z"⟩)
  | 111 => (0, 9, prog_11_method_11_code, 1, (some ClassFile.FieldType.boolean), 0, ⟨"PatternTrier$Walker", "chooseFirst", "()Z"⟩)
  | 112 => (0, 9, prog_11_method_16_code, 3, (some ClassFile.FieldType.int), 2, ⟨"PatternTrier$Walker", "key", "(II)I"⟩)
  | 113 => (0, 5, prog_7_method_12_code, 2, (some ClassFile.FieldType.int), 1, ⟨"PatternTrier$Program", "slotOf", "(I)I"⟩)
  | 114 => (0, 2, prog_4_method_3_code, 3, (some ClassFile.FieldType.boolean), 2, ⟨"PatternTrier$Failures", "has", "(II)Z"⟩)
  | 115 => (0, 2, prog_4_method_5_code, 2, (some ClassFile.FieldType.int), 1, ⟨"PatternTrier$Failures", "at", "(I)I"⟩)
  | 116 => (1, 4, prog_6_method_2_code, 4, (some ClassFile.FieldType.int), 4, ⟨"PatternTrier$Pile", "pack", "(IIII)I"⟩)
  | 117 => (0, 4, prog_6_method_9_code, 2, none, 1, ⟨"PatternTrier$Pile", "push", "(I)V"⟩)
  | 118 => (1, 13, prog_32_method_123_code, 3, (some (ClassFile.FieldType.array ClassFile.FieldType.int)), 2, ⟨"java/util/Arrays", "copyOf", "([II)[I"⟩)
  | 119 => (0, 9, prog_11_method_12_code, 2, (some ClassFile.FieldType.boolean), 1, ⟨"PatternTrier$Walker", "endRound", "(I)Z"⟩)
  | 120 => (0, 9, prog_11_method_13_code, 2, (some ClassFile.FieldType.boolean), 1, ⟨"PatternTrier$Walker", "setMark", "(I)Z"⟩)
  | 121 => (0, 9, prog_11_method_4_code, 2, (some ClassFile.FieldType.int), 1, ⟨"PatternTrier$Walker", "mark", "(I)I"⟩)
  | 122 => (0, 9, prog_11_method_14_code, 1, (some ClassFile.FieldType.boolean), 0, ⟨"PatternTrier$Walker", "isEdge", "()Z"⟩)
  | 123 => (1, 9, prog_11_method_15_code, 1, (some ClassFile.FieldType.boolean), 1, ⟨"PatternTrier$Walker", "isWord", "(I)Z"⟩)
  | 124 => (0, 9, prog_11_method_17_code, 9, (some ClassFile.FieldType.boolean), 1, ⟨"PatternTrier$Walker", "walkApart", "(I)Z"⟩)
  | 125 => (0, 5, prog_7_method_10_code, 2, (some ClassFile.FieldType.int), 1, ⟨"PatternTrier$Program", "otherOf", "(I)I"⟩)
  | 126 => (0, 4, prog_6_method_11_code, 7, none, 1, ⟨"PatternTrier$Pile", "dropWays", "(I)V"⟩)
  | 127 => (1, 4, prog_6_method_4_code, 1, (some ClassFile.FieldType.int), 1, ⟨"PatternTrier$Pile", "stepOf", "(I)I"⟩)
  | 128 => (1, 4, prog_6_method_3_code, 1, (some ClassFile.FieldType.int), 1, ⟨"PatternTrier$Pile", "kindOf", "(I)I"⟩)
  | 129 => (0, 9, prog_11_method_18_code, 7, (some ClassFile.FieldType.boolean), 1, ⟨"PatternTrier$Walker", "goBack", "(I)Z"⟩)
  | 130 => (0, 4, prog_6_method_10_code, 1, (some ClassFile.FieldType.int), 0, ⟨"PatternTrier$Pile", "pop", "()I"⟩)
  | 131 => (1, 4, prog_6_method_6_code, 1, (some ClassFile.FieldType.int), 1, ⟨"PatternTrier$Pile", "placeOf", "(I)I"⟩)
  | 132 => (1, 4, prog_6_method_5_code, 1, (some ClassFile.FieldType.int), 1, ⟨"PatternTrier$Pile", "takenOf", "(I)I"⟩)
  | 133 => (0, 2, prog_4_method_4_code, 5, none, 2, ⟨"PatternTrier$Failures", "add", "(II)V"⟩)
  | 134 => (0, 9, prog_11_method_5_code, 2, none, 1, ⟨"PatternTrier$Walker", "copyMarks", "([I)V"⟩)
  | 135 => (0, 10, prog_1_method_7_code, 4, (some ClassFile.FieldType.int), 2, ⟨"PatternTrier", "group", "(II)I"⟩)
  | 136 => (1, 10, prog_1_method_19_code, 1, none, 1, ⟨"PatternTrier", "needPart", "(I)V"⟩)
  | 137 => (0, 10, prog_1_method_8_code, 7, (some ClassFile.FieldType.int), 2, ⟨"PatternTrier", "find", "(II)I"⟩)
  | 138 => (1, 10, prog_1_method_21_code, 1, none, 1, ⟨"PatternTrier", "needShort", "(LPatternTrier$Bytes;)V"⟩)
  | 139 => (0, 3, prog_5_method_2_code, 1, none, 0, ⟨"PatternTrier$Found", "clear", "()V"⟩)
  | 140 => (0, 3, prog_5_method_4_code, 3, none, 2, ⟨"PatternTrier$Found", "add", "(II)V"⟩)
  | 141 => (0, 9, prog_11_method_6_code, 1, (some ClassFile.FieldType.int), 0, ⟨"PatternTrier$Walker", "placeBehind", "()I"⟩)
  | 142 => (0, 3, prog_5_method_3_code, 1, (some ClassFile.FieldType.int), 0, ⟨"PatternTrier$Found", "amount", "()I"⟩)
  | 143 => (0, 10, prog_1_method_9_code, 3, (some ClassFile.FieldType.int), 2, ⟨"PatternTrier", "found", "(II)I"⟩)
  | 144 => (0, 3, prog_5_method_5_code, 3, (some ClassFile.FieldType.int), 2, ⟨"PatternTrier$Found", "bound", "(II)I"⟩)
  | 145 => (0, 10, prog_1_method_10_code, 6, (some ClassFile.FieldType.int), 2, ⟨"PatternTrier", "replace", "(II)I"⟩)
  | 146 => (1, 10, prog_1_method_22_code, 3, (some ClassFile.FieldType.int), 1, ⟨"PatternTrier", "wrongPlace", "(LPatternTrier$Bytes;)I"⟩)
  | 147 => (1, 10, prog_1_method_26_code, 1, (some ClassFile.FieldType.boolean), 1, ⟨"PatternTrier", "isDigit", "(I)Z"⟩)
  | 148 => (0, 10, prog_1_method_23_code, 8, (some ClassFile.FieldType.boolean), 3, ⟨"PatternTrier", "writeReplaced", "(LPatternTrier$Program;LPatternTrier$Bytes;LPatternTrier$Bytes;)Z"⟩)
  | 149 => (0, 10, prog_1_method_24_code, 6, (some ClassFile.FieldType.boolean), 2, ⟨"PatternTrier", "writeModel", "(LPatternTrier$Bytes;LPatternTrier$Bytes;)Z"⟩)
  | 150 => (0, 10, prog_1_method_25_code, 4, (some ClassFile.FieldType.boolean), 2, ⟨"PatternTrier", "writeSign", "(LPatternTrier$Bytes;I)Z"⟩)
  | 151 => (0, 10, prog_1_method_16_code, 2, none, 0, ⟨"PatternTrier", "swapFound", "()V"⟩)
  | 152 => (0, 10, prog_1_method_11_code, 7, (some ClassFile.FieldType.int), 3, ⟨"PatternTrier", "span", "(III)I"⟩)
  | 153 => (0, 5, prog_7_method_17_code, 1, (some ClassFile.FieldType.int), 0, ⟨"PatternTrier$Program", "onlySet", "()I"⟩)
  | 154 => (0, 10, prog_1_method_12_code, 7, (some ClassFile.FieldType.long), 2, ⟨"PatternTrier", "word", "(II)J"⟩)
  | 155 => (0, 10, prog_1_method_13_code, 2, (some ClassFile.FieldType.int), 1, ⟨"PatternTrier", "count", "(I)I"⟩)
  | 156 => (0, 5, prog_7_method_16_code, 1, (some ClassFile.FieldType.int), 0, ⟨"PatternTrier$Program", "groups", "()I"⟩)
  | 157 => (2, 11, prog_13_method_1_code, 1, none, 0, ⟨"PatternTrierModel", "<init>", "()V"⟩)
  | 158 => (0, 11, prog_13_method_2_code, 1, (some ClassFile.FieldType.int), 0, ⟨"PatternTrierModel", "thrown", "()I"⟩)
  | 159 => (0, 11, prog_13_method_6_code, 6, (some ClassFile.FieldType.int), 5, ⟨"PatternTrierModel", "feed", "(IIIII)I"⟩)
  | 160 => (0, 11, prog_13_method_3_code, 2, (some ClassFile.FieldType.int), 1, ⟨"PatternTrierModel", "refuse", "(I)I"⟩)
  | 161 => (0, 11, prog_13_method_7_code, 3, none, 1, ⟨"PatternTrierModel", "four", "(I)V"⟩)
  | 162 => (0, 11, prog_13_method_8_code, 2, (some ClassFile.FieldType.int), 1, ⟨"PatternTrierModel", "end", "(I)I"⟩)
  | 163 => (1, 11, prog_13_method_4_code, 3, (some ClassFile.FieldType.boolean), 3, ⟨"PatternTrierModel", "in", "(III)Z"⟩)
  | 164 => (0, 11, prog_13_method_32_code, 4, (some ClassFile.FieldType.int), 1, ⟨"PatternTrierModel", "pattern", "(I)I"⟩)
  | 165 => (0, 11, prog_13_method_9_code, 2, none, 0, ⟨"PatternTrierModel", "take", "()V"⟩)
  | 166 => (0, 11, prog_13_method_22_code, 3, none, 0, ⟨"PatternTrierModel", "readPattern", "()V"⟩)
  | 167 => (0, 11, prog_13_method_20_code, 4, none, 3, ⟨"PatternTrierModel", "opens", "(III)V"⟩)
  | 168 => (0, 11, prog_13_method_11_code, 4, (some ClassFile.FieldType.int), 3, ⟨"PatternTrierModel", "newNode", "(III)I"⟩)
  | 169 => (0, 11, prog_13_method_10_code, 2, (some ClassFile.FieldType.int), 1, ⟨"PatternTrierModel", "signAt", "(I)I"⟩)
  | 170 => (0, 11, prog_13_method_21_code, 2, (some ClassFile.FieldType.int), 0, ⟨"PatternTrierModel", "closed", "()I"⟩)
  | 171 => (0, 11, prog_13_method_19_code, 8, (some ClassFile.FieldType.int), 4, ⟨"PatternTrierModel", "both", "(IIII)I"⟩)
  | 172 => (0, 11, prog_13_method_24_code, 5, none, 0, ⟨"PatternTrierModel", "bracket", "()V"⟩)
  | 173 => (0, 11, prog_13_method_12_code, 2, (some ClassFile.FieldType.int), 1, ⟨"PatternTrierModel", "wrong", "(I)I"⟩)
  | 174 => (0, 11, prog_13_method_25_code, 4, none, 0, ⟨"PatternTrierModel", "close", "()V"⟩)
  | 175 => (0, 11, prog_13_method_26_code, 8, (some ClassFile.FieldType.int), 1, ⟨"PatternTrierModel", "quantified", "(I)I"⟩)
  | 176 => (0, 11, prog_13_method_27_code, 3, (some ClassFile.FieldType.int), 0, ⟨"PatternTrierModel", "number", "()I"⟩)
  | 177 => (0, 11, prog_13_method_23_code, 3, none, 1, ⟨"PatternTrierModel", "joins", "(I)V"⟩)
  | 178 => (0, 11, prog_13_method_29_code, 4, (some ClassFile.FieldType.int), 0, ⟨"PatternTrierModel", "atom", "()I"⟩)
  | 179 => (0, 11, prog_13_method_28_code, 3, (some ClassFile.FieldType.int), 1, ⟨"PatternTrierModel", "single", "(I)I"⟩)
  | 180 => (0, 11, prog_13_method_13_code, 2, (some ClassFile.FieldType.int), 0, ⟨"PatternTrierModel", "newSet", "()I"⟩)
  | 181 => (0, 11, prog_13_method_14_code, 3, none, 2, ⟨"PatternTrierModel", "include", "(II)V"⟩)
  | 182 => (0, 11, prog_13_method_30_code, 4, none, 1, ⟨"PatternTrierModel", "escape", "(I)V"⟩)
  | 183 => (1, 11, prog_13_method_18_code, 1, (some ClassFile.FieldType.boolean), 1, ⟨"PatternTrierModel", "isLetterOfKind", "(I)Z"⟩)
  | 184 => (1, 11, prog_13_method_17_code, 2, (some ClassFile.FieldType.boolean), 2, ⟨"PatternTrierModel", "isKind", "(II)Z"⟩)
  | 185 => (1, 11, prog_13_method_16_code, 1, (some ClassFile.FieldType.boolean), 1, ⟨"PatternTrierModel", "isWord", "(I)Z"⟩)
  | 186 => (1, 11, prog_13_method_5_code, 1, (some ClassFile.FieldType.boolean), 1, ⟨"PatternTrierModel", "isBlank", "(I)Z"⟩)
  | 187 => (0, 11, prog_13_method_31_code, 8, none, 1, ⟨"PatternTrierModel", "many", "(I)V"⟩)
  | 188 => (0, 11, prog_13_method_33_code, 3, (some ClassFile.FieldType.int), 1, ⟨"PatternTrierModel", "text", "(I)I"⟩)
  | 189 => (0, 11, prog_13_method_55_code, 7, (some ClassFile.FieldType.int), 4, ⟨"PatternTrierModel", "match", "(IIII)I"⟩)
  | 190 => (0, 11, prog_13_method_52_code, 3, none, 2, ⟨"PatternTrierModel", "prepare", "(II)V"⟩)
  | 191 => (0, 11, prog_13_method_51_code, 3, none, 1, ⟨"PatternTrierModel", "again", "(I)V"⟩)
  | 192 => (0, 11, prog_13_method_37_code, 7, none, 0, ⟨"PatternTrierModel", "compile", "()V"⟩)
  | 193 => (0, 11, prog_13_method_35_code, 5, none, 4, ⟨"PatternTrierModel", "later", "(IIII)V"⟩)
  | 194 => (0, 11, prog_13_method_39_code, 4, none, 1, ⟨"PatternTrierModel", "nodeOf", "(I)V"⟩)
  | 195 => (0, 11, prog_13_method_34_code, 5, (some ClassFile.FieldType.int), 3, ⟨"PatternTrierModel", "emit", "(III)I"⟩)
  | 196 => (0, 11, prog_13_method_36_code, 5, none, 4, ⟨"PatternTrierModel", "split", "(IIIZ)V"⟩)
  | 197 => (0, 11, prog_13_method_38_code, 7, none, 3, ⟨"PatternTrierModel", "maybe", "(III)V"⟩)
  | 198 => (0, 11, prog_13_method_53_code, 1, none, 0, ⟨"PatternTrierModel", "newSearch", "()V"⟩)
  | 199 => (0, 11, prog_13_method_43_code, 5, none, 2, ⟨"PatternTrierModel", "clearNotes", "(II)V"⟩)
  | 200 => (0, 11, prog_13_method_54_code, 3, (some ClassFile.FieldType.int), 1, ⟨"PatternTrierModel", "tryAt", "(I)I"⟩)
  | 201 => (0, 11, prog_13_method_49_code, 4, (some ClassFile.FieldType.int), 1, ⟨"PatternTrierModel", "go", "(I)I"⟩)
  | 202 => (0, 11, prog_13_method_40_code, 2, none, 1, ⟨"PatternTrierModel", "push", "(I)V"⟩)
  | 203 => (0, 11, prog_13_method_42_code, 5, none, 1, ⟨"PatternTrierModel", "restored", "(I)V"⟩)
  | 204 => (0, 11, prog_13_method_47_code, 3, (some ClassFile.FieldType.int), 0, ⟨"PatternTrierModel", "one", "()I"⟩)
  | 205 => (0, 11, prog_13_method_46_code, 6, (some ClassFile.FieldType.boolean), 2, ⟨"PatternTrierModel", "wasHere", "(II)Z"⟩)
  | 206 => (0, 11, prog_13_method_44_code, 2, (some ClassFile.FieldType.int), 1, ⟨"PatternTrierModel", "byteAt", "(I)I"⟩)
  | 207 => (0, 11, prog_13_method_15_code, 3, (some ClassFile.FieldType.boolean), 2, ⟨"PatternTrierModel", "has", "(II)Z"⟩)
  | 208 => (0, 11, prog_13_method_41_code, 3, none, 2, ⟨"PatternTrierModel", "before", "(II)V"⟩)
  | 209 => (0, 11, prog_13_method_45_code, 4, (some ClassFile.FieldType.boolean), 1, ⟨"PatternTrierModel", "isEdge", "(I)Z"⟩)
  | 210 => (0, 11, prog_13_method_50_code, 5, (some ClassFile.FieldType.int), 0, ⟨"PatternTrierModel", "asked", "()I"⟩)
  | 211 => (0, 11, prog_13_method_48_code, 6, (some ClassFile.FieldType.int), 2, ⟨"PatternTrierModel", "sub", "(II)I"⟩)
  | 212 => (0, 11, prog_13_method_56_code, 3, (some ClassFile.FieldType.int), 2, ⟨"PatternTrierModel", "group", "(II)I"⟩)
  | 213 => (0, 11, prog_13_method_60_code, 4, (some ClassFile.FieldType.int), 2, ⟨"PatternTrierModel", "find", "(II)I"⟩)
  | 214 => (0, 11, prog_13_method_57_code, 4, (some ClassFile.FieldType.boolean), 1, ⟨"PatternTrierModel", "nextMatch", "(I)Z"⟩)
  | 215 => (0, 11, prog_13_method_58_code, 1, (some ClassFile.FieldType.int), 0, ⟨"PatternTrierModel", "behindLast", "()I"⟩)
  | 216 => (0, 11, prog_13_method_59_code, 2, none, 0, ⟨"PatternTrierModel", "keepFound", "()V"⟩)
  | 217 => (0, 11, prog_13_method_61_code, 3, (some ClassFile.FieldType.int), 2, ⟨"PatternTrierModel", "found", "(II)I"⟩)
  | 218 => (0, 11, prog_13_method_64_code, 6, (some ClassFile.FieldType.int), 2, ⟨"PatternTrierModel", "replace", "(II)I"⟩)
  | 219 => (0, 11, prog_13_method_62_code, 2, none, 1, ⟨"PatternTrierModel", "say", "(I)V"⟩)
  | 220 => (0, 11, prog_13_method_63_code, 4, none, 0, ⟨"PatternTrierModel", "substitute", "()V"⟩)
  | 221 => (0, 11, prog_13_method_66_code, 6, (some ClassFile.FieldType.int), 3, ⟨"PatternTrierModel", "span", "(III)I"⟩)
  | 222 => (0, 11, prog_13_method_65_code, 4, (some ClassFile.FieldType.int), 1, ⟨"PatternTrierModel", "alone", "(I)I"⟩)
  | 223 => (0, 11, prog_13_method_67_code, 6, (some ClassFile.FieldType.long), 2, ⟨"PatternTrierModel", "word", "(II)J"⟩)
  | 224 => (0, 11, prog_13_method_68_code, 2, (some ClassFile.FieldType.int), 1, ⟨"PatternTrierModel", "count", "(I)I"⟩)
  | _ => (9, 0, .empty, 0, none, 0, ⟨"", "", ""⟩)
def q_MT : List (Nat × Nat × Nat × Nat × Nat) := [(12, 63, 0, 1, 36), (10, 11, 1, 1, 44), (5, 32, 2, 1, 50), (10, 22, 3, 1, 106), (10, 29, 4, 1, 121), (10, 47, 5, 1, 126), (8, 35, 2, 1, 131), (10, 54, 6, 1, 162), (10, 63, 7, 1, 193), (10, 72, 8, 1, 206), (9, 11, 9, 1, 212), (9, 20, 10, 1, 225), (10, 81, 11, 2, 23), (12, 7, 12, 2, 78), (10, 93, 13, 2, 82), (10, 104, 14, 2, 157), (10, 256, 15, 2, 161), (10, 107, 16, 2, 165), (12, 15, 17, 2, 173), (10, 115, 18, 2, 193), (12, 21, 19, 2, 201), (10, 118, 20, 2, 205), (10, 122, 21, 2, 209), (10, 126, 22, 2, 214), (6, 23, 23, 2, 218), (8, 44, 24, 2, 222), (6, 40, 25, 2, 226), (6, 62, 26, 2, 230), (6, 68, 27, 2, 234), (6, 47, 28, 2, 238), (6, 54, 16, 3, 2), (6, 60, 29, 3, 3), (6, 80, 30, 3, 7), (6, 84, 31, 3, 10), (6, 87, 32, 3, 14), (6, 100, 33, 3, 18), (6, 146, 34, 3, 22), (6, 50, 35, 3, 26), (6, 65, 36, 3, 30), (8, 65, 37, 3, 34), (6, 76, 38, 3, 37), (8, 47, 39, 3, 41), (6, 103, 40, 3, 47), (6, 121, 41, 3, 51), (6, 125, 42, 3, 55), (7, 19, 39, 3, 59), (6, 133, 43, 3, 60), (6, 139, 44, 3, 64), (6, 112, 45, 3, 68), (6, 130, 46, 3, 71), (7, 23, 37, 3, 77), (6, 115, 47, 3, 78), (6, 118, 48, 3, 81), (6, 142, 49, 3, 84), (6, 136, 50, 3, 88), (6, 106, 51, 3, 92), (6, 109, 52, 3, 96), (6, 90, 53, 3, 100), (6, 93, 54, 3, 103), (6, 96, 55, 3, 107), (6, 149, 56, 3, 111), (6, 152, 57, 3, 116), (6, 155, 58, 3, 120), (8, 57, 36, 3, 124), (8, 61, 38, 3, 125), (6, 72, 59, 3, 126), (10, 135, 60, 3, 146), (10, 138, 36, 3, 150), (10, 144, 61, 3, 152), (10, 146, 62, 3, 156), (0, 19, 63, 3, 160), (5, 53, 64, 3, 164), (5, 57, 39, 3, 168), (0, 24, 65, 3, 169), (0, 32, 66, 3, 173), (0, 38, 67, 3, 177), (0, 51, 68, 3, 181), (0, 54, 54, 3, 185), (0, 57, 69, 3, 186), (0, 66, 70, 3, 190), (0, 69, 71, 3, 194), (0, 78, 72, 3, 198), (0, 44, 64, 3, 202), (0, 81, 73, 3, 203), (0, 47, 74, 3, 207), (0, 75, 75, 3, 211), (0, 72, 76, 3, 215), (0, 60, 77, 3, 219), (0, 63, 78, 3, 223), (0, 41, 79, 3, 227), (0, 28, 80, 3, 231), (5, 64, 41, 3, 235), (5, 69, 81, 3, 236), (5, 73, 36, 4, 5), (5, 77, 82, 4, 6), (8, 69, 66, 4, 10), (8, 72, 79, 4, 11), (8, 75, 54, 4, 12), (8, 78, 70, 4, 13), (10, 150, 83, 4, 14), (12, 26, 84, 4, 21), (10, 153, 85, 4, 25), (10, 159, 86, 4, 31), (1, 35, 87, 4, 35), (1, 25, 13, 4, 39), (12, 29, 88, 4, 45), (10, 165, 89, 4, 50), (10, 171, 90, 4, 70), (9, 41, 91, 4, 74), (9, 47, 16, 4, 78), (9, 52, 92, 4, 79), (2, 23, 93, 4, 86), (13, 13, 94, 4, 89), (13, 339, 95, 5, 56), (13, 343, 96, 5, 59), (10, 175, 97, 5, 111), (9, 56, 4, 5, 115), (9, 62, 98, 5, 116), (9, 64, 99, 5, 120), (9, 67, 100, 5, 124), (9, 91, 101, 5, 128), (9, 103, 102, 5, 133), (9, 110, 103, 5, 137), (9, 113, 104, 5, 141), (9, 116, 29, 5, 145), (9, 119, 105, 5, 146), (9, 148, 106, 5, 150), (9, 136, 107, 5, 154), (9, 145, 108, 5, 158), (9, 123, 109, 5, 162), (5, 79, 110, 5, 166), (9, 127, 111, 5, 170), (9, 151, 112, 5, 174), (9, 173, 113, 5, 178), (9, 154, 114, 5, 182), (2, 29, 115, 5, 186), (2, 33, 37, 5, 190), (9, 157, 116, 5, 191), (9, 161, 117, 5, 194), (4, 18, 118, 5, 199), (9, 130, 119, 5, 207), (9, 133, 120, 5, 211), (9, 87, 121, 5, 215), (9, 71, 39, 5, 219), (9, 139, 122, 5, 220), (9, 164, 123, 5, 224), (9, 167, 47, 5, 227), (9, 170, 48, 5, 228), (9, 142, 124, 5, 229), (9, 176, 125, 5, 233), (9, 179, 126, 5, 237), (4, 24, 37, 6, 1), (4, 30, 127, 6, 2), (4, 34, 128, 6, 5), (4, 37, 39, 6, 8), (9, 107, 129, 6, 11), (9, 182, 130, 6, 15), (9, 185, 127, 6, 19), (9, 188, 131, 6, 20), (9, 191, 132, 6, 23), (9, 194, 128, 6, 26), (9, 195, 133, 6, 27), (2, 39, 39, 6, 31), (10, 179, 134, 6, 32), (10, 183, 121, 6, 38), (12, 35, 135, 6, 42), (10, 188, 136, 6, 47), (12, 39, 137, 6, 54), (10, 191, 138, 6, 58), (10, 194, 139, 6, 62), (10, 197, 140, 6, 66), (3, 19, 39, 6, 70), (10, 201, 141, 6, 71), (10, 204, 142, 6, 75), (12, 42, 143, 6, 82), (10, 209, 144, 6, 87), (3, 23, 37, 6, 91), (12, 45, 145, 6, 96), (10, 213, 146, 6, 100), (10, 240, 29, 6, 103), (10, 272, 147, 6, 104), (10, 218, 148, 6, 106), (10, 275, 87, 6, 110), (10, 279, 149, 6, 111), (10, 283, 150, 6, 115), (10, 227, 151, 6, 135), (12, 50, 152, 6, 143), (10, 232, 153, 6, 148), (10, 243, 109, 6, 168), (12, 56, 154, 6, 172), (12, 60, 155, 6, 181), (10, 253, 156, 6, 185), (12, 66, 157, 6, 192), (12, 73, 158, 7, 189), (12, 72, 159, 7, 193), (11, 162, 160, 7, 197), (11, 166, 161, 7, 201), (12, 80, 162, 7, 205), (11, 170, 163, 7, 209), (12, 83, 164, 7, 212), (11, 277, 165, 7, 216), (11, 280, 166, 7, 220), (11, 216, 167, 7, 224), (11, 196, 168, 7, 228), (11, 220, 169, 7, 232), (11, 223, 170, 7, 236), (11, 203, 171, 8, 0), (11, 227, 172, 8, 4), (11, 242, 173, 8, 8), (11, 230, 174, 8, 12), (11, 236, 175, 8, 16), (11, 248, 176, 8, 20), (11, 239, 177, 8, 25), (11, 233, 178, 8, 29), (11, 252, 179, 8, 33), (11, 255, 180, 8, 37), (11, 258, 181, 8, 41), (11, 262, 182, 8, 45), (11, 268, 183, 8, 49), (11, 271, 184, 8, 52), (11, 189, 185, 8, 55), (11, 193, 186, 8, 58), (11, 265, 187, 8, 61), (12, 86, 188, 8, 66), (12, 90, 189, 8, 70), (11, 383, 190, 8, 74), (11, 371, 191, 8, 78), (11, 374, 192, 8, 82), (11, 298, 193, 8, 86), (11, 302, 194, 8, 90), (11, 305, 195, 8, 94), (11, 311, 196, 8, 98), (11, 315, 197, 8, 102), (11, 377, 198, 8, 106), (11, 364, 199, 8, 110), (11, 386, 200, 8, 114), (11, 380, 201, 8, 118), (11, 321, 202, 8, 122), (11, 351, 203, 8, 126), (11, 354, 204, 8, 130), (11, 339, 205, 8, 134), (11, 330, 206, 8, 138), (11, 342, 207, 8, 142), (11, 345, 208, 8, 146), (11, 348, 209, 8, 150), (11, 357, 210, 8, 154), (11, 367, 211, 8, 158), (12, 94, 212, 8, 162), (12, 97, 213, 8, 166), (11, 398, 214, 8, 170), (11, 401, 215, 8, 174), (11, 404, 216, 8, 178), (12, 100, 217, 8, 182), (12, 103, 218, 8, 186), (11, 413, 219, 8, 190), (11, 416, 220, 8, 194), (12, 107, 221, 8, 198), (11, 419, 222, 8, 202), (12, 110, 223, 8, 206), (12, 113, 224, 8, 210)]
def q_mth (o i : Nat) : Option Nat := (q_MT.find? (fun e => e.1 == o && e.2.1 == i)).map (fun e => e.2.2.1)
/-- what the tables must say of a method -/
def q_mok (M : qM) : Prop := oN M.2.1 = M.2.2.2.2.2.2.cls ∧ plainName M.2.2.2.2.2.2.cls = true ∧ (M.2.2.2.2.2.2.cls ≠ "java/lang/invoke/MethodHandle" ∧ M.2.2.2.2.2.2.cls ≠ "java/lang/invoke/VarHandle" ∧ (parseMethodDescriptor M.2.2.2.2.2.2.desc).map (fun d => d.parameters.length) = some M.2.2.2.2.2.1) ∧ Cond.code M.2.2.2.2.2.2 M.2.2.1 M.2.2.2.1 M.2.2.2.2.1 ∈ GW ∧ Cond.initialized M.2.2.2.2.2.2.cls ∈ GW ∧ (M.1 = 0 → Cond.instanceMethod M.2.2.2.2.2.2 ∈ GW ∧ Cond.selects M.2.2.2.2.2.2.cls M.2.2.2.2.2.2 M.2.2.2.2.2.2 ∈ GW) ∧ ((M.1 = 1 ∨ M.1 = 3) → Cond.static M.2.2.2.2.2.2 ∈ GW) ∧ (M.1 = 2 → Cond.instanceMethod M.2.2.2.2.2.2 ∈ GW ∧ M.2.2.2.2.2.2.name = "<init>" ∧ M.2.2.2.2.1 = none)
theorem GW_sel {y : MethodName} (i : Nat) (h : (lw_privs[i]?).map (fun q => q.1) = some y) : Cond.selects y.cls y y ∈ GW := by
  obtain ⟨q, hq, rfl⟩ := Option.map_eq_some_iff.mp h
  exact GW_in (List.mem_append_left _ (List.mem_map.mpr ⟨q, List.mem_of_getElem? hq, rfl⟩)) rfl
theorem q_mok0 : q_mok (q_ms 0) := ⟨by decide +kernel, by decide +kernel, ⟨by decide +kernel, by decide +kernel, by decide +kernel⟩, GW_tk 1 38 (by decide +kernel) rfl, GW_tk 1 1 (by decide +kernel) rfl, fun h => absurd h (by decide), fun h => absurd h (by decide), fun _ => ⟨GW_tk 1 37 (by decide +kernel) rfl, rfl, rfl⟩⟩
theorem q_mok1 : q_mok (q_ms 1) := ⟨by decide +kernel, by decide +kernel, ⟨by decide +kernel, by decide +kernel, by decide +kernel⟩, GW_tk 1 46 (by decide +kernel) rfl, GW_tk 1 2 (by decide +kernel) rfl, fun h => absurd h (by decide), fun h => absurd h (by decide), fun _ => ⟨GW_tk 1 45 (by decide +kernel) rfl, rfl, rfl⟩⟩
theorem q_mok2 : q_mok (q_ms 2) := ⟨by decide +kernel, by decide +kernel, ⟨by decide +kernel, by decide +kernel, by decide +kernel⟩, GW_tk 1 52 (by decide +kernel) rfl, GW_tk 1 3 (by decide +kernel) rfl, fun h => absurd h (by decide), fun h => absurd h (by decide), fun _ => ⟨GW_tk 1 51 (by decide +kernel) rfl, rfl, rfl⟩⟩
theorem q_mok3 : q_mok (q_ms 3) := ⟨by decide +kernel, by decide +kernel, ⟨by decide +kernel, by decide +kernel, by decide +kernel⟩, GW_tk 1 108 (by decide +kernel) rfl, GW_tk 1 4 (by decide +kernel) rfl, fun h => absurd h (by decide), fun h => absurd h (by decide), fun _ => ⟨GW_tk 1 107 (by decide +kernel) rfl, rfl, rfl⟩⟩
theorem q_mok4 : q_mok (q_ms 4) := ⟨by decide +kernel, by decide +kernel, ⟨by decide +kernel, by decide +kernel, by decide +kernel⟩, GW_tk 1 123 (by decide +kernel) rfl, GW_tk 1 6 (by decide +kernel) rfl, fun h => absurd h (by decide), fun _ => GW_tk 1 122 (by decide +kernel) rfl, fun h => absurd h (by decide)⟩
theorem q_mok5 : q_mok (q_ms 5) := ⟨by decide +kernel, by decide +kernel, ⟨by decide +kernel, by decide +kernel, by decide +kernel⟩, GW_tk 1 128 (by decide +kernel) rfl, GW_tk 1 7 (by decide +kernel) rfl, fun h => absurd h (by decide), fun h => absurd h (by decide), fun _ => ⟨GW_tk 1 127 (by decide +kernel) rfl, rfl, rfl⟩⟩
theorem q_mok6 : q_mok (q_ms 6) := ⟨by decide +kernel, by decide +kernel, ⟨by decide +kernel, by decide +kernel, by decide +kernel⟩, GW_tk 1 164 (by decide +kernel) rfl, GW_tk 1 8 (by decide +kernel) rfl, fun h => absurd h (by decide), fun h => absurd h (by decide), fun _ => ⟨GW_tk 1 163 (by decide +kernel) rfl, rfl, rfl⟩⟩
theorem q_mok7 : q_mok (q_ms 7) := ⟨by decide +kernel, by decide +kernel, ⟨by decide +kernel, by decide +kernel, by decide +kernel⟩, GW_tk 1 195 (by decide +kernel) rfl, GW_tk 1 9 (by decide +kernel) rfl, fun h => absurd h (by decide), fun h => absurd h (by decide), fun _ => ⟨GW_tk 1 194 (by decide +kernel) rfl, rfl, rfl⟩⟩
theorem q_mok8 : q_mok (q_ms 8) := ⟨by decide +kernel, by decide +kernel, ⟨by decide +kernel, by decide +kernel, by decide +kernel⟩, GW_tk 1 208 (by decide +kernel) rfl, GW_tk 1 10 (by decide +kernel) rfl, fun h => absurd h (by decide), fun h => absurd h (by decide), fun _ => ⟨GW_tk 1 207 (by decide +kernel) rfl, rfl, rfl⟩⟩
theorem q_mok9 : q_mok (q_ms 9) := ⟨by decide +kernel, by decide +kernel, ⟨by decide +kernel, by decide +kernel, by decide +kernel⟩, GW_tk 1 214 (by decide +kernel) rfl, GW_tk 1 11 (by decide +kernel) rfl, fun h => absurd h (by decide), fun h => absurd h (by decide), fun _ => ⟨GW_tk 1 213 (by decide +kernel) rfl, rfl, rfl⟩⟩
theorem q_mok10 : q_mok (q_ms 10) := ⟨by decide +kernel, by decide +kernel, ⟨by decide +kernel, by decide +kernel, by decide +kernel⟩, GW_tk 1 227 (by decide +kernel) rfl, GW_tk 1 12 (by decide +kernel) rfl, fun h => absurd h (by decide), fun h => absurd h (by decide), fun _ => ⟨GW_tk 1 226 (by decide +kernel) rfl, rfl, rfl⟩⟩
theorem q_mok11 : q_mok (q_ms 11) := ⟨by decide +kernel, by decide +kernel, ⟨by decide +kernel, by decide +kernel, by decide +kernel⟩, GW_tk 2 25 (by decide +kernel) rfl, GW_tk 1 13 (by decide +kernel) rfl, fun h => absurd h (by decide), fun h => absurd h (by decide), fun _ => ⟨GW_tk 2 24 (by decide +kernel) rfl, rfl, rfl⟩⟩
theorem q_mok12 : q_mok (q_ms 12) := ⟨by decide +kernel, by decide +kernel, ⟨by decide +kernel, by decide +kernel, by decide +kernel⟩, GW_tk 2 81 (by decide +kernel) rfl, GW_tk 1 1 (by decide +kernel) rfl, fun _ => ⟨GW_tk 2 79 (by decide +kernel) rfl, GW_tk 2 80 (by decide +kernel) rfl⟩, fun h => absurd h (by decide), fun h => absurd h (by decide)⟩
theorem q_mok13 : q_mok (q_ms 13) := ⟨by decide +kernel, by decide +kernel, ⟨by decide +kernel, by decide +kernel, by decide +kernel⟩, GW_tk 2 85 (by decide +kernel) rfl, GW_tk 1 4 (by decide +kernel) rfl, fun _ => ⟨GW_tk 2 83 (by decide +kernel) rfl, GW_tk 2 84 (by decide +kernel) rfl⟩, fun h => absurd h (by decide), fun h => absurd h (by decide)⟩
theorem q_mok14 : q_mok (q_ms 14) := ⟨by decide +kernel, by decide +kernel, ⟨by decide +kernel, by decide +kernel, by decide +kernel⟩, GW_tk 2 160 (by decide +kernel) rfl, GW_tk 1 1 (by decide +kernel) rfl, fun _ => ⟨GW_tk 2 159 (by decide +kernel) rfl, GW_sel 1 (by decide +kernel)⟩, fun h => absurd h (by decide), fun h => absurd h (by decide)⟩
theorem q_mok15 : q_mok (q_ms 15) := ⟨by decide +kernel, by decide +kernel, ⟨by decide +kernel, by decide +kernel, by decide +kernel⟩, GW_tk 2 164 (by decide +kernel) rfl, GW_tk 1 4 (by decide +kernel) rfl, fun _ => ⟨GW_tk 2 162 (by decide +kernel) rfl, GW_tk 2 163 (by decide +kernel) rfl⟩, fun h => absurd h (by decide), fun h => absurd h (by decide)⟩
theorem q_mok16 : q_mok (q_ms 16) := ⟨by decide +kernel, by decide +kernel, ⟨by decide +kernel, by decide +kernel, by decide +kernel⟩, GW_tk 2 168 (by decide +kernel) rfl, GW_tk 1 4 (by decide +kernel) rfl, fun _ => ⟨GW_tk 2 166 (by decide +kernel) rfl, GW_tk 2 167 (by decide +kernel) rfl⟩, fun h => absurd h (by decide), fun h => absurd h (by decide)⟩
theorem q_mok17 : q_mok (q_ms 17) := ⟨by decide +kernel, by decide +kernel, ⟨by decide +kernel, by decide +kernel, by decide +kernel⟩, GW_tk 2 176 (by decide +kernel) rfl, GW_tk 1 1 (by decide +kernel) rfl, fun _ => ⟨GW_tk 2 174 (by decide +kernel) rfl, GW_tk 2 175 (by decide +kernel) rfl⟩, fun h => absurd h (by decide), fun h => absurd h (by decide)⟩
theorem q_mok18 : q_mok (q_ms 18) := ⟨by decide +kernel, by decide +kernel, ⟨by decide +kernel, by decide +kernel, by decide +kernel⟩, GW_tk 2 196 (by decide +kernel) rfl, GW_tk 1 4 (by decide +kernel) rfl, fun _ => ⟨GW_tk 2 194 (by decide +kernel) rfl, GW_tk 2 195 (by decide +kernel) rfl⟩, fun h => absurd h (by decide), fun h => absurd h (by decide)⟩
theorem q_mok19 : q_mok (q_ms 19) := ⟨by decide +kernel, by decide +kernel, ⟨by decide +kernel, by decide +kernel, by decide +kernel⟩, GW_tk 2 204 (by decide +kernel) rfl, GW_tk 1 1 (by decide +kernel) rfl, fun _ => ⟨GW_tk 2 202 (by decide +kernel) rfl, GW_tk 2 203 (by decide +kernel) rfl⟩, fun h => absurd h (by decide), fun h => absurd h (by decide)⟩
theorem q_mok20 : q_mok (q_ms 20) := ⟨by decide +kernel, by decide +kernel, ⟨by decide +kernel, by decide +kernel, by decide +kernel⟩, GW_tk 2 208 (by decide +kernel) rfl, GW_tk 1 1 (by decide +kernel) rfl, fun _ => ⟨GW_tk 2 207 (by decide +kernel) rfl, GW_sel 2 (by decide +kernel)⟩, fun h => absurd h (by decide), fun h => absurd h (by decide)⟩
theorem q_mok21 : q_mok (q_ms 21) := ⟨by decide +kernel, by decide +kernel, ⟨by decide +kernel, by decide +kernel, by decide +kernel⟩, GW_tk 2 212 (by decide +kernel) rfl, GW_tk 1 1 (by decide +kernel) rfl, fun _ => ⟨GW_tk 2 211 (by decide +kernel) rfl, GW_sel 3 (by decide +kernel)⟩, fun h => absurd h (by decide), fun h => absurd h (by decide)⟩
theorem q_mok22 : q_mok (q_ms 22) := ⟨by decide +kernel, by decide +kernel, ⟨by decide +kernel, by decide +kernel, by decide +kernel⟩, GW_tk 2 217 (by decide +kernel) rfl, GW_tk 1 8 (by decide +kernel) rfl, fun _ => ⟨GW_tk 2 215 (by decide +kernel) rfl, GW_tk 2 216 (by decide +kernel) rfl⟩, fun h => absurd h (by decide), fun h => absurd h (by decide)⟩
theorem q_mok23 : q_mok (q_ms 23) := ⟨by decide +kernel, by decide +kernel, ⟨by decide +kernel, by decide +kernel, by decide +kernel⟩, GW_tk 2 221 (by decide +kernel) rfl, GW_tk 1 7 (by decide +kernel) rfl, fun _ => ⟨GW_tk 2 219 (by decide +kernel) rfl, GW_tk 2 220 (by decide +kernel) rfl⟩, fun h => absurd h (by decide), fun h => absurd h (by decide)⟩
theorem q_mok24 : q_mok (q_ms 24) := ⟨by decide +kernel, by decide +kernel, ⟨by decide +kernel, by decide +kernel, by decide +kernel⟩, GW_tk 2 225 (by decide +kernel) rfl, GW_tk 1 3 (by decide +kernel) rfl, fun _ => ⟨GW_tk 2 223 (by decide +kernel) rfl, GW_tk 2 224 (by decide +kernel) rfl⟩, fun h => absurd h (by decide), fun h => absurd h (by decide)⟩
theorem q_mok25 : q_mok (q_ms 25) := ⟨by decide +kernel, by decide +kernel, ⟨by decide +kernel, by decide +kernel, by decide +kernel⟩, GW_tk 2 229 (by decide +kernel) rfl, GW_tk 1 8 (by decide +kernel) rfl, fun _ => ⟨GW_tk 2 228 (by decide +kernel) rfl, GW_sel 4 (by decide +kernel)⟩, fun h => absurd h (by decide), fun h => absurd h (by decide)⟩
theorem q_mok26 : q_mok (q_ms 26) := ⟨by decide +kernel, by decide +kernel, ⟨by decide +kernel, by decide +kernel, by decide +kernel⟩, GW_tk 2 233 (by decide +kernel) rfl, GW_tk 1 8 (by decide +kernel) rfl, fun _ => ⟨GW_tk 2 232 (by decide +kernel) rfl, GW_sel 5 (by decide +kernel)⟩, fun h => absurd h (by decide), fun h => absurd h (by decide)⟩
theorem q_mok27 : q_mok (q_ms 27) := ⟨by decide +kernel, by decide +kernel, ⟨by decide +kernel, by decide +kernel, by decide +kernel⟩, GW_tk 2 237 (by decide +kernel) rfl, GW_tk 1 8 (by decide +kernel) rfl, fun _ => ⟨GW_tk 2 236 (by decide +kernel) rfl, GW_sel 6 (by decide +kernel)⟩, fun h => absurd h (by decide), fun h => absurd h (by decide)⟩
theorem q_mok28 : q_mok (q_ms 28) := ⟨by decide +kernel, by decide +kernel, ⟨by decide +kernel, by decide +kernel, by decide +kernel⟩, GW_tk 3 1 (by decide +kernel) rfl, GW_tk 1 8 (by decide +kernel) rfl, fun _ => ⟨GW_tk 3 0 (by decide +kernel) rfl, GW_sel 7 (by decide +kernel)⟩, fun h => absurd h (by decide), fun h => absurd h (by decide)⟩
theorem q_mok29 : q_mok (q_ms 29) := ⟨by decide +kernel, by decide +kernel, ⟨by decide +kernel, by decide +kernel, by decide +kernel⟩, GW_tk 3 6 (by decide +kernel) rfl, GW_tk 1 4 (by decide +kernel) rfl, fun _ => ⟨GW_tk 3 4 (by decide +kernel) rfl, GW_tk 3 5 (by decide +kernel) rfl⟩, fun h => absurd h (by decide), fun h => absurd h (by decide)⟩
theorem q_mok30 : q_mok (q_ms 30) := ⟨by decide +kernel, by decide +kernel, ⟨by decide +kernel, by decide +kernel, by decide +kernel⟩, GW_tk 3 9 (by decide +kernel) rfl, GW_tk 1 8 (by decide +kernel) rfl, fun h => absurd h (by decide), fun _ => GW_tk 3 8 (by decide +kernel) rfl, fun h => absurd h (by decide)⟩
theorem q_mok31 : q_mok (q_ms 31) := ⟨by decide +kernel, by decide +kernel, ⟨by decide +kernel, by decide +kernel, by decide +kernel⟩, GW_tk 3 13 (by decide +kernel) rfl, GW_tk 1 8 (by decide +kernel) rfl, fun _ => ⟨GW_tk 3 12 (by decide +kernel) rfl, GW_sel 8 (by decide +kernel)⟩, fun h => absurd h (by decide), fun h => absurd h (by decide)⟩
theorem q_mok32 : q_mok (q_ms 32) := ⟨by decide +kernel, by decide +kernel, ⟨by decide +kernel, by decide +kernel, by decide +kernel⟩, GW_tk 3 17 (by decide +kernel) rfl, GW_tk 1 8 (by decide +kernel) rfl, fun _ => ⟨GW_tk 3 16 (by decide +kernel) rfl, GW_sel 9 (by decide +kernel)⟩, fun h => absurd h (by decide), fun h => absurd h (by decide)⟩
theorem q_mok33 : q_mok (q_ms 33) := ⟨by decide +kernel, by decide +kernel, ⟨by decide +kernel, by decide +kernel, by decide +kernel⟩, GW_tk 3 21 (by decide +kernel) rfl, GW_tk 1 8 (by decide +kernel) rfl, fun _ => ⟨GW_tk 3 20 (by decide +kernel) rfl, GW_sel 10 (by decide +kernel)⟩, fun h => absurd h (by decide), fun h => absurd h (by decide)⟩
theorem q_mok34 : q_mok (q_ms 34) := ⟨by decide +kernel, by decide +kernel, ⟨by decide +kernel, by decide +kernel, by decide +kernel⟩, GW_tk 3 25 (by decide +kernel) rfl, GW_tk 1 8 (by decide +kernel) rfl, fun _ => ⟨GW_tk 3 24 (by decide +kernel) rfl, GW_sel 11 (by decide +kernel)⟩, fun h => absurd h (by decide), fun h => absurd h (by decide)⟩
theorem q_mok35 : q_mok (q_ms 35) := ⟨by decide +kernel, by decide +kernel, ⟨by decide +kernel, by decide +kernel, by decide +kernel⟩, GW_tk 3 29 (by decide +kernel) rfl, GW_tk 1 8 (by decide +kernel) rfl, fun _ => ⟨GW_tk 3 28 (by decide +kernel) rfl, GW_sel 12 (by decide +kernel)⟩, fun h => absurd h (by decide), fun h => absurd h (by decide)⟩
theorem q_mok36 : q_mok (q_ms 36) := ⟨by decide +kernel, by decide +kernel, ⟨by decide +kernel, by decide +kernel, by decide +kernel⟩, GW_tk 3 33 (by decide +kernel) rfl, GW_tk 1 7 (by decide +kernel) rfl, fun _ => ⟨GW_tk 3 31 (by decide +kernel) rfl, GW_tk 3 32 (by decide +kernel) rfl⟩, fun h => absurd h (by decide), fun h => absurd h (by decide)⟩
theorem q_mok37 : q_mok (q_ms 37) := ⟨by decide +kernel, by decide +kernel, ⟨by decide +kernel, by decide +kernel, by decide +kernel⟩, GW_tk 3 36 (by decide +kernel) rfl, GW_tk 1 1 (by decide +kernel) rfl, fun h => absurd h (by decide), fun _ => GW_tk 3 35 (by decide +kernel) rfl, fun h => absurd h (by decide)⟩
theorem q_mok38 : q_mok (q_ms 38) := ⟨by decide +kernel, by decide +kernel, ⟨by decide +kernel, by decide +kernel, by decide +kernel⟩, GW_tk 3 40 (by decide +kernel) rfl, GW_tk 1 7 (by decide +kernel) rfl, fun _ => ⟨GW_tk 3 38 (by decide +kernel) rfl, GW_tk 3 39 (by decide +kernel) rfl⟩, fun h => absurd h (by decide), fun h => absurd h (by decide)⟩
theorem q_mok39 : q_mok (q_ms 39) := ⟨by decide +kernel, by decide +kernel, ⟨by decide +kernel, by decide +kernel, by decide +kernel⟩, GW_tk 3 43 (by decide +kernel) rfl, GW_tk 1 1 (by decide +kernel) rfl, fun h => absurd h (by decide), fun _ => GW_tk 3 42 (by decide +kernel) rfl, fun h => absurd h (by decide)⟩
theorem q_mok40 : q_mok (q_ms 40) := ⟨by decide +kernel, by decide +kernel, ⟨by decide +kernel, by decide +kernel, by decide +kernel⟩, GW_tk 3 50 (by decide +kernel) rfl, GW_tk 1 8 (by decide +kernel) rfl, fun _ => ⟨GW_tk 3 49 (by decide +kernel) rfl, GW_sel 13 (by decide +kernel)⟩, fun h => absurd h (by decide), fun h => absurd h (by decide)⟩
theorem q_mok41 : q_mok (q_ms 41) := ⟨by decide +kernel, by decide +kernel, ⟨by decide +kernel, by decide +kernel, by decide +kernel⟩, GW_tk 3 54 (by decide +kernel) rfl, GW_tk 1 7 (by decide +kernel) rfl, fun _ => ⟨GW_tk 3 52 (by decide +kernel) rfl, GW_tk 3 53 (by decide +kernel) rfl⟩, fun h => absurd h (by decide), fun h => absurd h (by decide)⟩
theorem q_mok42 : q_mok (q_ms 42) := ⟨by decide +kernel, by decide +kernel, ⟨by decide +kernel, by decide +kernel, by decide +kernel⟩, GW_tk 3 58 (by decide +kernel) rfl, GW_tk 1 3 (by decide +kernel) rfl, fun _ => ⟨GW_tk 3 56 (by decide +kernel) rfl, GW_tk 3 57 (by decide +kernel) rfl⟩, fun h => absurd h (by decide), fun h => absurd h (by decide)⟩
theorem q_mok43 : q_mok (q_ms 43) := ⟨by decide +kernel, by decide +kernel, ⟨by decide +kernel, by decide +kernel, by decide +kernel⟩, GW_tk 3 63 (by decide +kernel) rfl, GW_tk 1 8 (by decide +kernel) rfl, fun _ => ⟨GW_tk 3 62 (by decide +kernel) rfl, GW_sel 14 (by decide +kernel)⟩, fun h => absurd h (by decide), fun h => absurd h (by decide)⟩
theorem q_mok44 : q_mok (q_ms 44) := ⟨by decide +kernel, by decide +kernel, ⟨by decide +kernel, by decide +kernel, by decide +kernel⟩, GW_tk 3 67 (by decide +kernel) rfl, GW_tk 1 8 (by decide +kernel) rfl, fun _ => ⟨GW_tk 3 66 (by decide +kernel) rfl, GW_sel 15 (by decide +kernel)⟩, fun h => absurd h (by decide), fun h => absurd h (by decide)⟩
theorem q_mok45 : q_mok (q_ms 45) := ⟨by decide +kernel, by decide +kernel, ⟨by decide +kernel, by decide +kernel, by decide +kernel⟩, GW_tk 3 70 (by decide +kernel) rfl, GW_tk 1 8 (by decide +kernel) rfl, fun h => absurd h (by decide), fun _ => GW_tk 3 69 (by decide +kernel) rfl, fun h => absurd h (by decide)⟩
theorem q_mok46 : q_mok (q_ms 46) := ⟨by decide +kernel, by decide +kernel, ⟨by decide +kernel, by decide +kernel, by decide +kernel⟩, GW_tk 3 74 (by decide +kernel) rfl, GW_tk 1 3 (by decide +kernel) rfl, fun _ => ⟨GW_tk 3 72 (by decide +kernel) rfl, GW_tk 3 73 (by decide +kernel) rfl⟩, fun h => absurd h (by decide), fun h => absurd h (by decide)⟩
theorem q_mok47 : q_mok (q_ms 47) := ⟨by decide +kernel, by decide +kernel, ⟨by decide +kernel, by decide +kernel, by decide +kernel⟩, GW_tk 3 80 (by decide +kernel) rfl, GW_tk 1 1 (by decide +kernel) rfl, fun h => absurd h (by decide), fun _ => GW_tk 3 79 (by decide +kernel) rfl, fun h => absurd h (by decide)⟩
theorem q_mok48 : q_mok (q_ms 48) := ⟨by decide +kernel, by decide +kernel, ⟨by decide +kernel, by decide +kernel, by decide +kernel⟩, GW_tk 3 83 (by decide +kernel) rfl, GW_tk 1 1 (by decide +kernel) rfl, fun h => absurd h (by decide), fun _ => GW_tk 3 82 (by decide +kernel) rfl, fun h => absurd h (by decide)⟩
theorem q_mok49 : q_mok (q_ms 49) := ⟨by decide +kernel, by decide +kernel, ⟨by decide +kernel, by decide +kernel, by decide +kernel⟩, GW_tk 3 87 (by decide +kernel) rfl, GW_tk 1 3 (by decide +kernel) rfl, fun _ => ⟨GW_tk 3 85 (by decide +kernel) rfl, GW_tk 3 86 (by decide +kernel) rfl⟩, fun h => absurd h (by decide), fun h => absurd h (by decide)⟩
theorem q_mok50 : q_mok (q_ms 50) := ⟨by decide +kernel, by decide +kernel, ⟨by decide +kernel, by decide +kernel, by decide +kernel⟩, GW_tk 3 91 (by decide +kernel) rfl, GW_tk 1 3 (by decide +kernel) rfl, fun _ => ⟨GW_tk 3 89 (by decide +kernel) rfl, GW_tk 3 90 (by decide +kernel) rfl⟩, fun h => absurd h (by decide), fun h => absurd h (by decide)⟩
theorem q_mok51 : q_mok (q_ms 51) := ⟨by decide +kernel, by decide +kernel, ⟨by decide +kernel, by decide +kernel, by decide +kernel⟩, GW_tk 3 95 (by decide +kernel) rfl, GW_tk 1 8 (by decide +kernel) rfl, fun _ => ⟨GW_tk 3 94 (by decide +kernel) rfl, GW_sel 16 (by decide +kernel)⟩, fun h => absurd h (by decide), fun h => absurd h (by decide)⟩
theorem q_mok52 : q_mok (q_ms 52) := ⟨by decide +kernel, by decide +kernel, ⟨by decide +kernel, by decide +kernel, by decide +kernel⟩, GW_tk 3 99 (by decide +kernel) rfl, GW_tk 1 8 (by decide +kernel) rfl, fun _ => ⟨GW_tk 3 98 (by decide +kernel) rfl, GW_sel 17 (by decide +kernel)⟩, fun h => absurd h (by decide), fun h => absurd h (by decide)⟩
theorem q_mok53 : q_mok (q_ms 53) := ⟨by decide +kernel, by decide +kernel, ⟨by decide +kernel, by decide +kernel, by decide +kernel⟩, GW_tk 3 102 (by decide +kernel) rfl, GW_tk 1 8 (by decide +kernel) rfl, fun h => absurd h (by decide), fun _ => GW_tk 3 101 (by decide +kernel) rfl, fun h => absurd h (by decide)⟩
theorem q_mok54 : q_mok (q_ms 54) := ⟨by decide +kernel, by decide +kernel, ⟨by decide +kernel, by decide +kernel, by decide +kernel⟩, GW_tk 3 106 (by decide +kernel) rfl, GW_tk 1 7 (by decide +kernel) rfl, fun _ => ⟨GW_tk 3 104 (by decide +kernel) rfl, GW_tk 3 105 (by decide +kernel) rfl⟩, fun h => absurd h (by decide), fun h => absurd h (by decide)⟩
theorem q_mok55 : q_mok (q_ms 55) := ⟨by decide +kernel, by decide +kernel, ⟨by decide +kernel, by decide +kernel, by decide +kernel⟩, GW_tk 3 110 (by decide +kernel) rfl, GW_tk 1 8 (by decide +kernel) rfl, fun _ => ⟨GW_tk 3 109 (by decide +kernel) rfl, GW_sel 18 (by decide +kernel)⟩, fun h => absurd h (by decide), fun h => absurd h (by decide)⟩
theorem q_mok56 : q_mok (q_ms 56) := ⟨by decide +kernel, by decide +kernel, ⟨by decide +kernel, by decide +kernel, by decide +kernel⟩, GW_tk 3 114 (by decide +kernel) rfl, GW_tk 1 8 (by decide +kernel) rfl, fun _ => ⟨GW_tk 3 113 (by decide +kernel) rfl, GW_sel 19 (by decide +kernel)⟩, fun h => absurd h (by decide), fun h => absurd h (by decide)⟩
theorem q_mok57 : q_mok (q_ms 57) := ⟨by decide +kernel, by decide +kernel, ⟨by decide +kernel, by decide +kernel, by decide +kernel⟩, GW_tk 3 119 (by decide +kernel) rfl, GW_tk 1 8 (by decide +kernel) rfl, fun _ => ⟨GW_tk 3 118 (by decide +kernel) rfl, GW_sel 20 (by decide +kernel)⟩, fun h => absurd h (by decide), fun h => absurd h (by decide)⟩
theorem q_mok58 : q_mok (q_ms 58) := ⟨by decide +kernel, by decide +kernel, ⟨by decide +kernel, by decide +kernel, by decide +kernel⟩, GW_tk 3 123 (by decide +kernel) rfl, GW_tk 1 7 (by decide +kernel) rfl, fun _ => ⟨GW_tk 3 121 (by decide +kernel) rfl, GW_tk 3 122 (by decide +kernel) rfl⟩, fun h => absurd h (by decide), fun h => absurd h (by decide)⟩
theorem q_mok59 : q_mok (q_ms 59) := ⟨by decide +kernel, by decide +kernel, ⟨by decide +kernel, by decide +kernel, by decide +kernel⟩, GW_tk 3 129 (by decide +kernel) rfl, GW_tk 1 7 (by decide +kernel) rfl, fun _ => ⟨GW_tk 3 127 (by decide +kernel) rfl, GW_tk 3 128 (by decide +kernel) rfl⟩, fun h => absurd h (by decide), fun h => absurd h (by decide)⟩
theorem q_mok60 : q_mok (q_ms 60) := ⟨by decide +kernel, by decide +kernel, ⟨by decide +kernel, by decide +kernel, by decide +kernel⟩, GW_tk 3 149 (by decide +kernel) rfl, GW_tk 1 8 (by decide +kernel) rfl, fun _ => ⟨GW_tk 3 147 (by decide +kernel) rfl, GW_tk 3 148 (by decide +kernel) rfl⟩, fun h => absurd h (by decide), fun h => absurd h (by decide)⟩
theorem q_mok61 : q_mok (q_ms 61) := ⟨by decide +kernel, by decide +kernel, ⟨by decide +kernel, by decide +kernel, by decide +kernel⟩, GW_tk 3 155 (by decide +kernel) rfl, GW_tk 1 8 (by decide +kernel) rfl, fun _ => ⟨GW_tk 3 153 (by decide +kernel) rfl, GW_tk 3 154 (by decide +kernel) rfl⟩, fun h => absurd h (by decide), fun h => absurd h (by decide)⟩
theorem q_mok62 : q_mok (q_ms 62) := ⟨by decide +kernel, by decide +kernel, ⟨by decide +kernel, by decide +kernel, by decide +kernel⟩, GW_tk 3 159 (by decide +kernel) rfl, GW_tk 1 9 (by decide +kernel) rfl, fun _ => ⟨GW_tk 3 157 (by decide +kernel) rfl, GW_tk 3 158 (by decide +kernel) rfl⟩, fun h => absurd h (by decide), fun h => absurd h (by decide)⟩
theorem q_mok63 : q_mok (q_ms 63) := ⟨by decide +kernel, by decide +kernel, ⟨by decide +kernel, by decide +kernel, by decide +kernel⟩, GW_tk 3 163 (by decide +kernel) rfl, GW_tk 1 2 (by decide +kernel) rfl, fun _ => ⟨GW_tk 3 161 (by decide +kernel) rfl, GW_tk 3 162 (by decide +kernel) rfl⟩, fun h => absurd h (by decide), fun h => absurd h (by decide)⟩
theorem q_mok64 : q_mok (q_ms 64) := ⟨by decide +kernel, by decide +kernel, ⟨by decide +kernel, by decide +kernel, by decide +kernel⟩, GW_tk 3 167 (by decide +kernel) rfl, GW_tk 1 2 (by decide +kernel) rfl, fun _ => ⟨GW_tk 3 165 (by decide +kernel) rfl, GW_tk 3 166 (by decide +kernel) rfl⟩, fun h => absurd h (by decide), fun h => absurd h (by decide)⟩
theorem q_mok65 : q_mok (q_ms 65) := ⟨by decide +kernel, by decide +kernel, ⟨by decide +kernel, by decide +kernel, by decide +kernel⟩, GW_tk 3 172 (by decide +kernel) rfl, GW_tk 1 9 (by decide +kernel) rfl, fun _ => ⟨GW_tk 3 171 (by decide +kernel) rfl, GW_sel 21 (by decide +kernel)⟩, fun h => absurd h (by decide), fun h => absurd h (by decide)⟩
theorem q_mok66 : q_mok (q_ms 66) := ⟨by decide +kernel, by decide +kernel, ⟨by decide +kernel, by decide +kernel, by decide +kernel⟩, GW_tk 3 176 (by decide +kernel) rfl, GW_tk 1 7 (by decide +kernel) rfl, fun _ => ⟨GW_tk 3 174 (by decide +kernel) rfl, GW_tk 3 175 (by decide +kernel) rfl⟩, fun h => absurd h (by decide), fun h => absurd h (by decide)⟩
theorem q_mok67 : q_mok (q_ms 67) := ⟨by decide +kernel, by decide +kernel, ⟨by decide +kernel, by decide +kernel, by decide +kernel⟩, GW_tk 3 180 (by decide +kernel) rfl, GW_tk 1 9 (by decide +kernel) rfl, fun _ => ⟨GW_tk 3 179 (by decide +kernel) rfl, GW_sel 22 (by decide +kernel)⟩, fun h => absurd h (by decide), fun h => absurd h (by decide)⟩
theorem q_mok68 : q_mok (q_ms 68) := ⟨by decide +kernel, by decide +kernel, ⟨by decide +kernel, by decide +kernel, by decide +kernel⟩, GW_tk 3 184 (by decide +kernel) rfl, GW_tk 1 9 (by decide +kernel) rfl, fun _ => ⟨GW_tk 3 183 (by decide +kernel) rfl, GW_sel 23 (by decide +kernel)⟩, fun h => absurd h (by decide), fun h => absurd h (by decide)⟩
theorem q_mok69 : q_mok (q_ms 69) := ⟨by decide +kernel, by decide +kernel, ⟨by decide +kernel, by decide +kernel, by decide +kernel⟩, GW_tk 3 189 (by decide +kernel) rfl, GW_tk 1 9 (by decide +kernel) rfl, fun _ => ⟨GW_tk 3 188 (by decide +kernel) rfl, GW_sel 24 (by decide +kernel)⟩, fun h => absurd h (by decide), fun h => absurd h (by decide)⟩
theorem q_mok70 : q_mok (q_ms 70) := ⟨by decide +kernel, by decide +kernel, ⟨by decide +kernel, by decide +kernel, by decide +kernel⟩, GW_tk 3 193 (by decide +kernel) rfl, GW_tk 1 7 (by decide +kernel) rfl, fun _ => ⟨GW_tk 3 191 (by decide +kernel) rfl, GW_tk 3 192 (by decide +kernel) rfl⟩, fun h => absurd h (by decide), fun h => absurd h (by decide)⟩
theorem q_mok71 : q_mok (q_ms 71) := ⟨by decide +kernel, by decide +kernel, ⟨by decide +kernel, by decide +kernel, by decide +kernel⟩, GW_tk 3 197 (by decide +kernel) rfl, GW_tk 1 9 (by decide +kernel) rfl, fun _ => ⟨GW_tk 3 196 (by decide +kernel) rfl, GW_sel 25 (by decide +kernel)⟩, fun h => absurd h (by decide), fun h => absurd h (by decide)⟩
theorem q_mok72 : q_mok (q_ms 72) := ⟨by decide +kernel, by decide +kernel, ⟨by decide +kernel, by decide +kernel, by decide +kernel⟩, GW_tk 3 201 (by decide +kernel) rfl, GW_tk 1 7 (by decide +kernel) rfl, fun _ => ⟨GW_tk 3 199 (by decide +kernel) rfl, GW_tk 3 200 (by decide +kernel) rfl⟩, fun h => absurd h (by decide), fun h => absurd h (by decide)⟩
theorem q_mok73 : q_mok (q_ms 73) := ⟨by decide +kernel, by decide +kernel, ⟨by decide +kernel, by decide +kernel, by decide +kernel⟩, GW_tk 3 206 (by decide +kernel) rfl, GW_tk 1 9 (by decide +kernel) rfl, fun _ => ⟨GW_tk 3 205 (by decide +kernel) rfl, GW_sel 26 (by decide +kernel)⟩, fun h => absurd h (by decide), fun h => absurd h (by decide)⟩
theorem q_mok74 : q_mok (q_ms 74) := ⟨by decide +kernel, by decide +kernel, ⟨by decide +kernel, by decide +kernel, by decide +kernel⟩, GW_tk 3 210 (by decide +kernel) rfl, GW_tk 1 2 (by decide +kernel) rfl, fun _ => ⟨GW_tk 3 208 (by decide +kernel) rfl, GW_tk 3 209 (by decide +kernel) rfl⟩, fun h => absurd h (by decide), fun h => absurd h (by decide)⟩
theorem q_mok75 : q_mok (q_ms 75) := ⟨by decide +kernel, by decide +kernel, ⟨by decide +kernel, by decide +kernel, by decide +kernel⟩, GW_tk 3 214 (by decide +kernel) rfl, GW_tk 1 7 (by decide +kernel) rfl, fun _ => ⟨GW_tk 3 212 (by decide +kernel) rfl, GW_tk 3 213 (by decide +kernel) rfl⟩, fun h => absurd h (by decide), fun h => absurd h (by decide)⟩
theorem q_mok76 : q_mok (q_ms 76) := ⟨by decide +kernel, by decide +kernel, ⟨by decide +kernel, by decide +kernel, by decide +kernel⟩, GW_tk 3 218 (by decide +kernel) rfl, GW_tk 1 9 (by decide +kernel) rfl, fun _ => ⟨GW_tk 3 217 (by decide +kernel) rfl, GW_sel 27 (by decide +kernel)⟩, fun h => absurd h (by decide), fun h => absurd h (by decide)⟩
theorem q_mok77 : q_mok (q_ms 77) := ⟨by decide +kernel, by decide +kernel, ⟨by decide +kernel, by decide +kernel, by decide +kernel⟩, GW_tk 3 222 (by decide +kernel) rfl, GW_tk 1 9 (by decide +kernel) rfl, fun _ => ⟨GW_tk 3 221 (by decide +kernel) rfl, GW_sel 28 (by decide +kernel)⟩, fun h => absurd h (by decide), fun h => absurd h (by decide)⟩
theorem q_mok78 : q_mok (q_ms 78) := ⟨by decide +kernel, by decide +kernel, ⟨by decide +kernel, by decide +kernel, by decide +kernel⟩, GW_tk 3 226 (by decide +kernel) rfl, GW_tk 1 9 (by decide +kernel) rfl, fun _ => ⟨GW_tk 3 225 (by decide +kernel) rfl, GW_sel 29 (by decide +kernel)⟩, fun h => absurd h (by decide), fun h => absurd h (by decide)⟩
theorem q_mok79 : q_mok (q_ms 79) := ⟨by decide +kernel, by decide +kernel, ⟨by decide +kernel, by decide +kernel, by decide +kernel⟩, GW_tk 3 230 (by decide +kernel) rfl, GW_tk 1 7 (by decide +kernel) rfl, fun _ => ⟨GW_tk 3 228 (by decide +kernel) rfl, GW_tk 3 229 (by decide +kernel) rfl⟩, fun h => absurd h (by decide), fun h => absurd h (by decide)⟩
theorem q_mok80 : q_mok (q_ms 80) := ⟨by decide +kernel, by decide +kernel, ⟨by decide +kernel, by decide +kernel, by decide +kernel⟩, GW_tk 3 234 (by decide +kernel) rfl, GW_tk 1 2 (by decide +kernel) rfl, fun _ => ⟨GW_tk 3 232 (by decide +kernel) rfl, GW_tk 3 233 (by decide +kernel) rfl⟩, fun h => absurd h (by decide), fun h => absurd h (by decide)⟩
theorem q_mok81 : q_mok (q_ms 81) := ⟨by decide +kernel, by decide +kernel, ⟨by decide +kernel, by decide +kernel, by decide +kernel⟩, GW_tk 3 239 (by decide +kernel) rfl, GW_tk 1 3 (by decide +kernel) rfl, fun _ => ⟨GW_tk 3 237 (by decide +kernel) rfl, GW_tk 3 238 (by decide +kernel) rfl⟩, fun h => absurd h (by decide), fun h => absurd h (by decide)⟩
theorem q_mok82 : q_mok (q_ms 82) := ⟨by decide +kernel, by decide +kernel, ⟨by decide +kernel, by decide +kernel, by decide +kernel⟩, GW_tk 4 9 (by decide +kernel) rfl, GW_tk 1 7 (by decide +kernel) rfl, fun _ => ⟨GW_tk 4 7 (by decide +kernel) rfl, GW_tk 4 8 (by decide +kernel) rfl⟩, fun h => absurd h (by decide), fun h => absurd h (by decide)⟩
theorem q_mok83 : q_mok (q_ms 83) := ⟨by decide +kernel, by decide +kernel, ⟨by decide +kernel, by decide +kernel, by decide +kernel⟩, GW_tk 4 17 (by decide +kernel) rfl, GW_tk 1 2 (by decide +kernel) rfl, fun _ => ⟨GW_tk 4 15 (by decide +kernel) rfl, GW_tk 4 16 (by decide +kernel) rfl⟩, fun h => absurd h (by decide), fun h => absurd h (by decide)⟩
theorem q_mok84 : q_mok (q_ms 84) := ⟨by decide +kernel, by decide +kernel, ⟨by decide +kernel, by decide +kernel, by decide +kernel⟩, GW_tk 4 24 (by decide +kernel) rfl, GW_tk 1 1 (by decide +kernel) rfl, fun _ => ⟨GW_tk 4 22 (by decide +kernel) rfl, GW_tk 4 23 (by decide +kernel) rfl⟩, fun h => absurd h (by decide), fun h => absurd h (by decide)⟩
theorem q_mok85 : q_mok (q_ms 85) := ⟨by decide +kernel, by decide +kernel, ⟨by decide +kernel, by decide +kernel, by decide +kernel⟩, GW_tk 4 28 (by decide +kernel) rfl, GW_tk 1 1 (by decide +kernel) rfl, fun _ => ⟨GW_tk 4 27 (by decide +kernel) rfl, GW_sel 30 (by decide +kernel)⟩, fun h => absurd h (by decide), fun h => absurd h (by decide)⟩
theorem q_mok86 : q_mok (q_ms 86) := ⟨by decide +kernel, by decide +kernel, ⟨by decide +kernel, by decide +kernel, by decide +kernel⟩, GW_tk 4 34 (by decide +kernel) rfl, GW_tk 1 4 (by decide +kernel) rfl, fun _ => ⟨GW_tk 4 32 (by decide +kernel) rfl, GW_tk 4 33 (by decide +kernel) rfl⟩, fun h => absurd h (by decide), fun h => absurd h (by decide)⟩
theorem q_mok87 : q_mok (q_ms 87) := ⟨by decide +kernel, by decide +kernel, ⟨by decide +kernel, by decide +kernel, by decide +kernel⟩, GW_tk 4 38 (by decide +kernel) rfl, GW_tk 1 4 (by decide +kernel) rfl, fun _ => ⟨GW_tk 4 36 (by decide +kernel) rfl, GW_tk 4 37 (by decide +kernel) rfl⟩, fun h => absurd h (by decide), fun h => absurd h (by decide)⟩
theorem q_mok88 : q_mok (q_ms 88) := ⟨by decide +kernel, by decide +kernel, ⟨by decide +kernel, by decide +kernel, by decide +kernel⟩, GW_tk 4 48 (by decide +kernel) rfl, GW_tk 1 1 (by decide +kernel) rfl, fun _ => ⟨GW_tk 4 46 (by decide +kernel) rfl, GW_tk 4 47 (by decide +kernel) rfl⟩, fun h => absurd h (by decide), fun h => absurd h (by decide)⟩
theorem q_mok89 : q_mok (q_ms 89) := ⟨by decide +kernel, by decide +kernel, ⟨by decide +kernel, by decide +kernel, by decide +kernel⟩, GW_tk 4 52 (by decide +kernel) rfl, GW_tk 1 1 (by decide +kernel) rfl, fun h => absurd h (by decide), fun _ => GW_tk 4 51 (by decide +kernel) rfl, fun h => absurd h (by decide)⟩
theorem q_mok90 : q_mok (q_ms 90) := ⟨by decide +kernel, by decide +kernel, ⟨by decide +kernel, by decide +kernel, by decide +kernel⟩, GW_tk 4 73 (by decide +kernel) rfl, GW_tk 1 10 (by decide +kernel) rfl, fun _ => ⟨GW_tk 4 71 (by decide +kernel) rfl, GW_tk 4 72 (by decide +kernel) rfl⟩, fun h => absurd h (by decide), fun h => absurd h (by decide)⟩
theorem q_mok91 : q_mok (q_ms 91) := ⟨by decide +kernel, by decide +kernel, ⟨by decide +kernel, by decide +kernel, by decide +kernel⟩, GW_tk 4 77 (by decide +kernel) rfl, GW_tk 1 2 (by decide +kernel) rfl, fun _ => ⟨GW_tk 4 75 (by decide +kernel) rfl, GW_tk 4 76 (by decide +kernel) rfl⟩, fun h => absurd h (by decide), fun h => absurd h (by decide)⟩
theorem q_mok92 : q_mok (q_ms 92) := ⟨by decide +kernel, by decide +kernel, ⟨by decide +kernel, by decide +kernel, by decide +kernel⟩, GW_tk 4 82 (by decide +kernel) rfl, GW_tk 1 12 (by decide +kernel) rfl, fun _ => ⟨GW_tk 4 80 (by decide +kernel) rfl, GW_tk 4 81 (by decide +kernel) rfl⟩, fun h => absurd h (by decide), fun h => absurd h (by decide)⟩
theorem q_mok93 : q_mok (q_ms 93) := ⟨by decide +kernel, by decide +kernel, ⟨by decide +kernel, by decide +kernel, by decide +kernel⟩, GW_tk 4 88 (by decide +kernel) rfl, GW_tk 1 6 (by decide +kernel) rfl, fun h => absurd h (by decide), fun _ => GW_tk 4 87 (by decide +kernel) rfl, fun h => absurd h (by decide)⟩
theorem q_mok94 : q_mok (q_ms 94) := ⟨by decide +kernel, by decide +kernel, ⟨by decide +kernel, by decide +kernel, by decide +kernel⟩, GW_tk 4 91 (by decide +kernel) rfl, GW_tk 1 6 (by decide +kernel) rfl, fun h => absurd h (by decide), fun _ => GW_tk 4 90 (by decide +kernel) rfl, fun h => absurd h (by decide)⟩
theorem q_mok95 : q_mok (q_ms 95) := ⟨by decide +kernel, by decide +kernel, ⟨by decide +kernel, by decide +kernel, by decide +kernel⟩, GW_tk 5 58 (by decide +kernel) rfl, GW_tk 1 6 (by decide +kernel) rfl, fun h => absurd h (by decide), fun _ => GW_tk 5 57 (by decide +kernel) rfl, fun h => absurd h (by decide)⟩
theorem q_mok96 : q_mok (q_ms 96) := ⟨by decide +kernel, by decide +kernel, ⟨by decide +kernel, by decide +kernel, by decide +kernel⟩, GW_tk 5 61 (by decide +kernel) rfl, GW_tk 1 6 (by decide +kernel) rfl, fun h => absurd h (by decide), fun _ => GW_tk 5 60 (by decide +kernel) rfl, fun h => absurd h (by decide)⟩
theorem q_mok97 : q_mok (q_ms 97) := ⟨by decide +kernel, by decide +kernel, ⟨by decide +kernel, by decide +kernel, by decide +kernel⟩, GW_tk 5 114 (by decide +kernel) rfl, GW_tk 1 10 (by decide +kernel) rfl, fun _ => ⟨GW_tk 5 112 (by decide +kernel) rfl, GW_tk 5 113 (by decide +kernel) rfl⟩, fun h => absurd h (by decide), fun h => absurd h (by decide)⟩
theorem q_mok98 : q_mok (q_ms 98) := ⟨by decide +kernel, by decide +kernel, ⟨by decide +kernel, by decide +kernel, by decide +kernel⟩, GW_tk 5 119 (by decide +kernel) rfl, GW_tk 1 11 (by decide +kernel) rfl, fun _ => ⟨GW_tk 5 117 (by decide +kernel) rfl, GW_tk 5 118 (by decide +kernel) rfl⟩, fun h => absurd h (by decide), fun h => absurd h (by decide)⟩
theorem q_mok99 : q_mok (q_ms 99) := ⟨by decide +kernel, by decide +kernel, ⟨by decide +kernel, by decide +kernel, by decide +kernel⟩, GW_tk 5 123 (by decide +kernel) rfl, GW_tk 1 2 (by decide +kernel) rfl, fun _ => ⟨GW_tk 5 121 (by decide +kernel) rfl, GW_tk 5 122 (by decide +kernel) rfl⟩, fun h => absurd h (by decide), fun h => absurd h (by decide)⟩
theorem q_mok100 : q_mok (q_ms 100) := ⟨by decide +kernel, by decide +kernel, ⟨by decide +kernel, by decide +kernel, by decide +kernel⟩, GW_tk 5 127 (by decide +kernel) rfl, GW_tk 1 10 (by decide +kernel) rfl, fun _ => ⟨GW_tk 5 126 (by decide +kernel) rfl, GW_sel 31 (by decide +kernel)⟩, fun h => absurd h (by decide), fun h => absurd h (by decide)⟩
theorem q_mok101 : q_mok (q_ms 101) := ⟨by decide +kernel, by decide +kernel, ⟨by decide +kernel, by decide +kernel, by decide +kernel⟩, GW_tk 5 131 (by decide +kernel) rfl, GW_tk 1 11 (by decide +kernel) rfl, fun _ => ⟨GW_tk 5 129 (by decide +kernel) rfl, GW_tk 5 130 (by decide +kernel) rfl⟩, fun h => absurd h (by decide), fun h => absurd h (by decide)⟩
theorem q_mok102 : q_mok (q_ms 102) := ⟨by decide +kernel, by decide +kernel, ⟨by decide +kernel, by decide +kernel, by decide +kernel⟩, GW_tk 5 136 (by decide +kernel) rfl, GW_tk 1 10 (by decide +kernel) rfl, fun _ => ⟨GW_tk 5 135 (by decide +kernel) rfl, GW_sel 32 (by decide +kernel)⟩, fun h => absurd h (by decide), fun h => absurd h (by decide)⟩
theorem q_mok103 : q_mok (q_ms 103) := ⟨by decide +kernel, by decide +kernel, ⟨by decide +kernel, by decide +kernel, by decide +kernel⟩, GW_tk 5 140 (by decide +kernel) rfl, GW_tk 1 2 (by decide +kernel) rfl, fun _ => ⟨GW_tk 5 138 (by decide +kernel) rfl, GW_tk 5 139 (by decide +kernel) rfl⟩, fun h => absurd h (by decide), fun h => absurd h (by decide)⟩
theorem q_mok104 : q_mok (q_ms 104) := ⟨by decide +kernel, by decide +kernel, ⟨by decide +kernel, by decide +kernel, by decide +kernel⟩, GW_tk 5 144 (by decide +kernel) rfl, GW_tk 1 2 (by decide +kernel) rfl, fun _ => ⟨GW_tk 5 142 (by decide +kernel) rfl, GW_tk 5 143 (by decide +kernel) rfl⟩, fun h => absurd h (by decide), fun h => absurd h (by decide)⟩
theorem q_mok105 : q_mok (q_ms 105) := ⟨by decide +kernel, by decide +kernel, ⟨by decide +kernel, by decide +kernel, by decide +kernel⟩, GW_tk 5 149 (by decide +kernel) rfl, GW_tk 1 10 (by decide +kernel) rfl, fun _ => ⟨GW_tk 5 148 (by decide +kernel) rfl, GW_sel 33 (by decide +kernel)⟩, fun h => absurd h (by decide), fun h => absurd h (by decide)⟩
theorem q_mok106 : q_mok (q_ms 106) := ⟨by decide +kernel, by decide +kernel, ⟨by decide +kernel, by decide +kernel, by decide +kernel⟩, GW_tk 5 153 (by decide +kernel) rfl, GW_tk 1 2 (by decide +kernel) rfl, fun _ => ⟨GW_tk 5 151 (by decide +kernel) rfl, GW_tk 5 152 (by decide +kernel) rfl⟩, fun h => absurd h (by decide), fun h => absurd h (by decide)⟩
theorem q_mok107 : q_mok (q_ms 107) := ⟨by decide +kernel, by decide +kernel, ⟨by decide +kernel, by decide +kernel, by decide +kernel⟩, GW_tk 5 157 (by decide +kernel) rfl, GW_tk 1 10 (by decide +kernel) rfl, fun _ => ⟨GW_tk 5 156 (by decide +kernel) rfl, GW_sel 34 (by decide +kernel)⟩, fun h => absurd h (by decide), fun h => absurd h (by decide)⟩
theorem q_mok108 : q_mok (q_ms 108) := ⟨by decide +kernel, by decide +kernel, ⟨by decide +kernel, by decide +kernel, by decide +kernel⟩, GW_tk 5 161 (by decide +kernel) rfl, GW_tk 1 2 (by decide +kernel) rfl, fun _ => ⟨GW_tk 5 159 (by decide +kernel) rfl, GW_tk 5 160 (by decide +kernel) rfl⟩, fun h => absurd h (by decide), fun h => absurd h (by decide)⟩
theorem q_mok109 : q_mok (q_ms 109) := ⟨by decide +kernel, by decide +kernel, ⟨by decide +kernel, by decide +kernel, by decide +kernel⟩, GW_tk 5 165 (by decide +kernel) rfl, GW_tk 1 2 (by decide +kernel) rfl, fun _ => ⟨GW_tk 5 163 (by decide +kernel) rfl, GW_tk 5 164 (by decide +kernel) rfl⟩, fun h => absurd h (by decide), fun h => absurd h (by decide)⟩
theorem q_mok110 : q_mok (q_ms 110) := ⟨by decide +kernel, by decide +kernel, ⟨by decide +kernel, by decide +kernel, by decide +kernel⟩, GW_tk 5 169 (by decide +kernel) rfl, GW_tk 1 3 (by decide +kernel) rfl, fun _ => ⟨GW_tk 5 167 (by decide +kernel) rfl, GW_tk 5 168 (by decide +kernel) rfl⟩, fun h => absurd h (by decide), fun h => absurd h (by decide)⟩
theorem q_mok111 : q_mok (q_ms 111) := ⟨by decide +kernel, by decide +kernel, ⟨by decide +kernel, by decide +kernel, by decide +kernel⟩, GW_tk 5 173 (by decide +kernel) rfl, GW_tk 1 10 (by decide +kernel) rfl, fun _ => ⟨GW_tk 5 172 (by decide +kernel) rfl, GW_sel 35 (by decide +kernel)⟩, fun h => absurd h (by decide), fun h => absurd h (by decide)⟩
theorem q_mok112 : q_mok (q_ms 112) := ⟨by decide +kernel, by decide +kernel, ⟨by decide +kernel, by decide +kernel, by decide +kernel⟩, GW_tk 5 177 (by decide +kernel) rfl, GW_tk 1 10 (by decide +kernel) rfl, fun _ => ⟨GW_tk 5 176 (by decide +kernel) rfl, GW_sel 36 (by decide +kernel)⟩, fun h => absurd h (by decide), fun h => absurd h (by decide)⟩
theorem q_mok113 : q_mok (q_ms 113) := ⟨by decide +kernel, by decide +kernel, ⟨by decide +kernel, by decide +kernel, by decide +kernel⟩, GW_tk 5 181 (by decide +kernel) rfl, GW_tk 1 2 (by decide +kernel) rfl, fun _ => ⟨GW_tk 5 179 (by decide +kernel) rfl, GW_tk 5 180 (by decide +kernel) rfl⟩, fun h => absurd h (by decide), fun h => absurd h (by decide)⟩
theorem q_mok114 : q_mok (q_ms 114) := ⟨by decide +kernel, by decide +kernel, ⟨by decide +kernel, by decide +kernel, by decide +kernel⟩, GW_tk 5 185 (by decide +kernel) rfl, GW_tk 1 12 (by decide +kernel) rfl, fun _ => ⟨GW_tk 5 183 (by decide +kernel) rfl, GW_tk 5 184 (by decide +kernel) rfl⟩, fun h => absurd h (by decide), fun h => absurd h (by decide)⟩
theorem q_mok115 : q_mok (q_ms 115) := ⟨by decide +kernel, by decide +kernel, ⟨by decide +kernel, by decide +kernel, by decide +kernel⟩, GW_tk 5 189 (by decide +kernel) rfl, GW_tk 1 12 (by decide +kernel) rfl, fun _ => ⟨GW_tk 5 188 (by decide +kernel) rfl, GW_sel 37 (by decide +kernel)⟩, fun h => absurd h (by decide), fun h => absurd h (by decide)⟩
theorem q_mok116 : q_mok (q_ms 116) := ⟨by decide +kernel, by decide +kernel, ⟨by decide +kernel, by decide +kernel, by decide +kernel⟩, GW_tk 5 193 (by decide +kernel) rfl, GW_tk 1 11 (by decide +kernel) rfl, fun h => absurd h (by decide), fun _ => GW_tk 5 192 (by decide +kernel) rfl, fun h => absurd h (by decide)⟩
theorem q_mok117 : q_mok (q_ms 117) := ⟨by decide +kernel, by decide +kernel, ⟨by decide +kernel, by decide +kernel, by decide +kernel⟩, GW_tk 5 197 (by decide +kernel) rfl, GW_tk 1 11 (by decide +kernel) rfl, fun _ => ⟨GW_tk 5 195 (by decide +kernel) rfl, GW_tk 5 196 (by decide +kernel) rfl⟩, fun h => absurd h (by decide), fun h => absurd h (by decide)⟩
theorem q_mok118 : q_mok (q_ms 118) := ⟨by decide +kernel, by decide +kernel, ⟨by decide +kernel, by decide +kernel, by decide +kernel⟩, GW_tk 5 201 (by decide +kernel) rfl, GW_tk 1 6 (by decide +kernel) rfl, fun h => absurd h (by decide), fun _ => GW_tk 5 200 (by decide +kernel) rfl, fun h => absurd h (by decide)⟩
theorem q_mok119 : q_mok (q_ms 119) := ⟨by decide +kernel, by decide +kernel, ⟨by decide +kernel, by decide +kernel, by decide +kernel⟩, GW_tk 5 210 (by decide +kernel) rfl, GW_tk 1 10 (by decide +kernel) rfl, fun _ => ⟨GW_tk 5 209 (by decide +kernel) rfl, GW_sel 38 (by decide +kernel)⟩, fun h => absurd h (by decide), fun h => absurd h (by decide)⟩
theorem q_mok120 : q_mok (q_ms 120) := ⟨by decide +kernel, by decide +kernel, ⟨by decide +kernel, by decide +kernel, by decide +kernel⟩, GW_tk 5 214 (by decide +kernel) rfl, GW_tk 1 10 (by decide +kernel) rfl, fun _ => ⟨GW_tk 5 213 (by decide +kernel) rfl, GW_sel 39 (by decide +kernel)⟩, fun h => absurd h (by decide), fun h => absurd h (by decide)⟩
theorem q_mok121 : q_mok (q_ms 121) := ⟨by decide +kernel, by decide +kernel, ⟨by decide +kernel, by decide +kernel, by decide +kernel⟩, GW_tk 5 218 (by decide +kernel) rfl, GW_tk 1 10 (by decide +kernel) rfl, fun _ => ⟨GW_tk 5 216 (by decide +kernel) rfl, GW_tk 5 217 (by decide +kernel) rfl⟩, fun h => absurd h (by decide), fun h => absurd h (by decide)⟩
theorem q_mok122 : q_mok (q_ms 122) := ⟨by decide +kernel, by decide +kernel, ⟨by decide +kernel, by decide +kernel, by decide +kernel⟩, GW_tk 5 223 (by decide +kernel) rfl, GW_tk 1 10 (by decide +kernel) rfl, fun _ => ⟨GW_tk 5 222 (by decide +kernel) rfl, GW_sel 40 (by decide +kernel)⟩, fun h => absurd h (by decide), fun h => absurd h (by decide)⟩
theorem q_mok123 : q_mok (q_ms 123) := ⟨by decide +kernel, by decide +kernel, ⟨by decide +kernel, by decide +kernel, by decide +kernel⟩, GW_tk 5 226 (by decide +kernel) rfl, GW_tk 1 10 (by decide +kernel) rfl, fun h => absurd h (by decide), fun _ => GW_tk 5 225 (by decide +kernel) rfl, fun h => absurd h (by decide)⟩
theorem q_mok124 : q_mok (q_ms 124) := ⟨by decide +kernel, by decide +kernel, ⟨by decide +kernel, by decide +kernel, by decide +kernel⟩, GW_tk 5 232 (by decide +kernel) rfl, GW_tk 1 10 (by decide +kernel) rfl, fun _ => ⟨GW_tk 5 231 (by decide +kernel) rfl, GW_sel 41 (by decide +kernel)⟩, fun h => absurd h (by decide), fun h => absurd h (by decide)⟩
theorem q_mok125 : q_mok (q_ms 125) := ⟨by decide +kernel, by decide +kernel, ⟨by decide +kernel, by decide +kernel, by decide +kernel⟩, GW_tk 5 236 (by decide +kernel) rfl, GW_tk 1 2 (by decide +kernel) rfl, fun _ => ⟨GW_tk 5 234 (by decide +kernel) rfl, GW_tk 5 235 (by decide +kernel) rfl⟩, fun h => absurd h (by decide), fun h => absurd h (by decide)⟩
theorem q_mok126 : q_mok (q_ms 126) := ⟨by decide +kernel, by decide +kernel, ⟨by decide +kernel, by decide +kernel, by decide +kernel⟩, GW_tk 6 0 (by decide +kernel) rfl, GW_tk 1 11 (by decide +kernel) rfl, fun _ => ⟨GW_tk 5 238 (by decide +kernel) rfl, GW_tk 5 239 (by decide +kernel) rfl⟩, fun h => absurd h (by decide), fun h => absurd h (by decide)⟩
theorem q_mok127 : q_mok (q_ms 127) := ⟨by decide +kernel, by decide +kernel, ⟨by decide +kernel, by decide +kernel, by decide +kernel⟩, GW_tk 6 4 (by decide +kernel) rfl, GW_tk 1 11 (by decide +kernel) rfl, fun h => absurd h (by decide), fun _ => GW_tk 6 3 (by decide +kernel) rfl, fun h => absurd h (by decide)⟩
theorem q_mok128 : q_mok (q_ms 128) := ⟨by decide +kernel, by decide +kernel, ⟨by decide +kernel, by decide +kernel, by decide +kernel⟩, GW_tk 6 7 (by decide +kernel) rfl, GW_tk 1 11 (by decide +kernel) rfl, fun h => absurd h (by decide), fun _ => GW_tk 6 6 (by decide +kernel) rfl, fun h => absurd h (by decide)⟩
theorem q_mok129 : q_mok (q_ms 129) := ⟨by decide +kernel, by decide +kernel, ⟨by decide +kernel, by decide +kernel, by decide +kernel⟩, GW_tk 6 14 (by decide +kernel) rfl, GW_tk 1 10 (by decide +kernel) rfl, fun _ => ⟨GW_tk 6 13 (by decide +kernel) rfl, GW_sel 42 (by decide +kernel)⟩, fun h => absurd h (by decide), fun h => absurd h (by decide)⟩
theorem q_mok130 : q_mok (q_ms 130) := ⟨by decide +kernel, by decide +kernel, ⟨by decide +kernel, by decide +kernel, by decide +kernel⟩, GW_tk 6 18 (by decide +kernel) rfl, GW_tk 1 11 (by decide +kernel) rfl, fun _ => ⟨GW_tk 6 16 (by decide +kernel) rfl, GW_tk 6 17 (by decide +kernel) rfl⟩, fun h => absurd h (by decide), fun h => absurd h (by decide)⟩
theorem q_mok131 : q_mok (q_ms 131) := ⟨by decide +kernel, by decide +kernel, ⟨by decide +kernel, by decide +kernel, by decide +kernel⟩, GW_tk 6 22 (by decide +kernel) rfl, GW_tk 1 11 (by decide +kernel) rfl, fun h => absurd h (by decide), fun _ => GW_tk 6 21 (by decide +kernel) rfl, fun h => absurd h (by decide)⟩
theorem q_mok132 : q_mok (q_ms 132) := ⟨by decide +kernel, by decide +kernel, ⟨by decide +kernel, by decide +kernel, by decide +kernel⟩, GW_tk 6 25 (by decide +kernel) rfl, GW_tk 1 11 (by decide +kernel) rfl, fun h => absurd h (by decide), fun _ => GW_tk 6 24 (by decide +kernel) rfl, fun h => absurd h (by decide)⟩
theorem q_mok133 : q_mok (q_ms 133) := ⟨by decide +kernel, by decide +kernel, ⟨by decide +kernel, by decide +kernel, by decide +kernel⟩, GW_tk 6 30 (by decide +kernel) rfl, GW_tk 1 12 (by decide +kernel) rfl, fun _ => ⟨GW_tk 6 28 (by decide +kernel) rfl, GW_tk 6 29 (by decide +kernel) rfl⟩, fun h => absurd h (by decide), fun h => absurd h (by decide)⟩
theorem q_mok134 : q_mok (q_ms 134) := ⟨by decide +kernel, by decide +kernel, ⟨by decide +kernel, by decide +kernel, by decide +kernel⟩, GW_tk 6 35 (by decide +kernel) rfl, GW_tk 1 10 (by decide +kernel) rfl, fun _ => ⟨GW_tk 6 33 (by decide +kernel) rfl, GW_tk 6 34 (by decide +kernel) rfl⟩, fun h => absurd h (by decide), fun h => absurd h (by decide)⟩
theorem q_mok135 : q_mok (q_ms 135) := ⟨by decide +kernel, by decide +kernel, ⟨by decide +kernel, by decide +kernel, by decide +kernel⟩, GW_tk 6 45 (by decide +kernel) rfl, GW_tk 1 1 (by decide +kernel) rfl, fun _ => ⟨GW_tk 6 43 (by decide +kernel) rfl, GW_tk 6 44 (by decide +kernel) rfl⟩, fun h => absurd h (by decide), fun h => absurd h (by decide)⟩
theorem q_mok136 : q_mok (q_ms 136) := ⟨by decide +kernel, by decide +kernel, ⟨by decide +kernel, by decide +kernel, by decide +kernel⟩, GW_tk 6 49 (by decide +kernel) rfl, GW_tk 1 1 (by decide +kernel) rfl, fun h => absurd h (by decide), fun _ => GW_tk 6 48 (by decide +kernel) rfl, fun h => absurd h (by decide)⟩
theorem q_mok137 : q_mok (q_ms 137) := ⟨by decide +kernel, by decide +kernel, ⟨by decide +kernel, by decide +kernel, by decide +kernel⟩, GW_tk 6 57 (by decide +kernel) rfl, GW_tk 1 1 (by decide +kernel) rfl, fun _ => ⟨GW_tk 6 55 (by decide +kernel) rfl, GW_tk 6 56 (by decide +kernel) rfl⟩, fun h => absurd h (by decide), fun h => absurd h (by decide)⟩
theorem q_mok138 : q_mok (q_ms 138) := ⟨by decide +kernel, by decide +kernel, ⟨by decide +kernel, by decide +kernel, by decide +kernel⟩, GW_tk 6 60 (by decide +kernel) rfl, GW_tk 1 1 (by decide +kernel) rfl, fun h => absurd h (by decide), fun _ => GW_tk 6 59 (by decide +kernel) rfl, fun h => absurd h (by decide)⟩
theorem q_mok139 : q_mok (q_ms 139) := ⟨by decide +kernel, by decide +kernel, ⟨by decide +kernel, by decide +kernel, by decide +kernel⟩, GW_tk 6 65 (by decide +kernel) rfl, GW_tk 1 13 (by decide +kernel) rfl, fun _ => ⟨GW_tk 6 63 (by decide +kernel) rfl, GW_tk 6 64 (by decide +kernel) rfl⟩, fun h => absurd h (by decide), fun h => absurd h (by decide)⟩
theorem q_mok140 : q_mok (q_ms 140) := ⟨by decide +kernel, by decide +kernel, ⟨by decide +kernel, by decide +kernel, by decide +kernel⟩, GW_tk 6 69 (by decide +kernel) rfl, GW_tk 1 13 (by decide +kernel) rfl, fun _ => ⟨GW_tk 6 67 (by decide +kernel) rfl, GW_tk 6 68 (by decide +kernel) rfl⟩, fun h => absurd h (by decide), fun h => absurd h (by decide)⟩
theorem q_mok141 : q_mok (q_ms 141) := ⟨by decide +kernel, by decide +kernel, ⟨by decide +kernel, by decide +kernel, by decide +kernel⟩, GW_tk 6 74 (by decide +kernel) rfl, GW_tk 1 10 (by decide +kernel) rfl, fun _ => ⟨GW_tk 6 72 (by decide +kernel) rfl, GW_tk 6 73 (by decide +kernel) rfl⟩, fun h => absurd h (by decide), fun h => absurd h (by decide)⟩
theorem q_mok142 : q_mok (q_ms 142) := ⟨by decide +kernel, by decide +kernel, ⟨by decide +kernel, by decide +kernel, by decide +kernel⟩, GW_tk 6 78 (by decide +kernel) rfl, GW_tk 1 13 (by decide +kernel) rfl, fun _ => ⟨GW_tk 6 76 (by decide +kernel) rfl, GW_tk 6 77 (by decide +kernel) rfl⟩, fun h => absurd h (by decide), fun h => absurd h (by decide)⟩
theorem q_mok143 : q_mok (q_ms 143) := ⟨by decide +kernel, by decide +kernel, ⟨by decide +kernel, by decide +kernel, by decide +kernel⟩, GW_tk 6 85 (by decide +kernel) rfl, GW_tk 1 1 (by decide +kernel) rfl, fun _ => ⟨GW_tk 6 83 (by decide +kernel) rfl, GW_tk 6 84 (by decide +kernel) rfl⟩, fun h => absurd h (by decide), fun h => absurd h (by decide)⟩
theorem q_mok144 : q_mok (q_ms 144) := ⟨by decide +kernel, by decide +kernel, ⟨by decide +kernel, by decide +kernel, by decide +kernel⟩, GW_tk 6 90 (by decide +kernel) rfl, GW_tk 1 13 (by decide +kernel) rfl, fun _ => ⟨GW_tk 6 88 (by decide +kernel) rfl, GW_tk 6 89 (by decide +kernel) rfl⟩, fun h => absurd h (by decide), fun h => absurd h (by decide)⟩
theorem q_mok145 : q_mok (q_ms 145) := ⟨by decide +kernel, by decide +kernel, ⟨by decide +kernel, by decide +kernel, by decide +kernel⟩, GW_tk 6 99 (by decide +kernel) rfl, GW_tk 1 1 (by decide +kernel) rfl, fun _ => ⟨GW_tk 6 97 (by decide +kernel) rfl, GW_tk 6 98 (by decide +kernel) rfl⟩, fun h => absurd h (by decide), fun h => absurd h (by decide)⟩
theorem q_mok146 : q_mok (q_ms 146) := ⟨by decide +kernel, by decide +kernel, ⟨by decide +kernel, by decide +kernel, by decide +kernel⟩, GW_tk 6 102 (by decide +kernel) rfl, GW_tk 1 1 (by decide +kernel) rfl, fun h => absurd h (by decide), fun _ => GW_tk 6 101 (by decide +kernel) rfl, fun h => absurd h (by decide)⟩
theorem q_mok147 : q_mok (q_ms 147) := ⟨by decide +kernel, by decide +kernel, ⟨by decide +kernel, by decide +kernel, by decide +kernel⟩, GW_tk 3 83 (by decide +kernel) rfl, GW_tk 1 1 (by decide +kernel) rfl, fun h => absurd h (by decide), fun _ => GW_tk 3 82 (by decide +kernel) rfl, fun h => absurd h (by decide)⟩
theorem q_mok148 : q_mok (q_ms 148) := ⟨by decide +kernel, by decide +kernel, ⟨by decide +kernel, by decide +kernel, by decide +kernel⟩, GW_tk 6 109 (by decide +kernel) rfl, GW_tk 1 1 (by decide +kernel) rfl, fun _ => ⟨GW_tk 6 108 (by decide +kernel) rfl, GW_sel 43 (by decide +kernel)⟩, fun h => absurd h (by decide), fun h => absurd h (by decide)⟩
theorem q_mok149 : q_mok (q_ms 149) := ⟨by decide +kernel, by decide +kernel, ⟨by decide +kernel, by decide +kernel, by decide +kernel⟩, GW_tk 6 114 (by decide +kernel) rfl, GW_tk 1 1 (by decide +kernel) rfl, fun _ => ⟨GW_tk 6 113 (by decide +kernel) rfl, GW_sel 44 (by decide +kernel)⟩, fun h => absurd h (by decide), fun h => absurd h (by decide)⟩
theorem q_mok150 : q_mok (q_ms 150) := ⟨by decide +kernel, by decide +kernel, ⟨by decide +kernel, by decide +kernel, by decide +kernel⟩, GW_tk 6 118 (by decide +kernel) rfl, GW_tk 1 1 (by decide +kernel) rfl, fun _ => ⟨GW_tk 6 117 (by decide +kernel) rfl, GW_sel 45 (by decide +kernel)⟩, fun h => absurd h (by decide), fun h => absurd h (by decide)⟩
theorem q_mok151 : q_mok (q_ms 151) := ⟨by decide +kernel, by decide +kernel, ⟨by decide +kernel, by decide +kernel, by decide +kernel⟩, GW_tk 6 138 (by decide +kernel) rfl, GW_tk 1 1 (by decide +kernel) rfl, fun _ => ⟨GW_tk 6 137 (by decide +kernel) rfl, GW_sel 46 (by decide +kernel)⟩, fun h => absurd h (by decide), fun h => absurd h (by decide)⟩
theorem q_mok152 : q_mok (q_ms 152) := ⟨by decide +kernel, by decide +kernel, ⟨by decide +kernel, by decide +kernel, by decide +kernel⟩, GW_tk 6 146 (by decide +kernel) rfl, GW_tk 1 1 (by decide +kernel) rfl, fun _ => ⟨GW_tk 6 144 (by decide +kernel) rfl, GW_tk 6 145 (by decide +kernel) rfl⟩, fun h => absurd h (by decide), fun h => absurd h (by decide)⟩
theorem q_mok153 : q_mok (q_ms 153) := ⟨by decide +kernel, by decide +kernel, ⟨by decide +kernel, by decide +kernel, by decide +kernel⟩, GW_tk 6 151 (by decide +kernel) rfl, GW_tk 1 2 (by decide +kernel) rfl, fun _ => ⟨GW_tk 6 149 (by decide +kernel) rfl, GW_tk 6 150 (by decide +kernel) rfl⟩, fun h => absurd h (by decide), fun h => absurd h (by decide)⟩
theorem q_mok154 : q_mok (q_ms 154) := ⟨by decide +kernel, by decide +kernel, ⟨by decide +kernel, by decide +kernel, by decide +kernel⟩, GW_tk 6 175 (by decide +kernel) rfl, GW_tk 1 1 (by decide +kernel) rfl, fun _ => ⟨GW_tk 6 173 (by decide +kernel) rfl, GW_tk 6 174 (by decide +kernel) rfl⟩, fun h => absurd h (by decide), fun h => absurd h (by decide)⟩
theorem q_mok155 : q_mok (q_ms 155) := ⟨by decide +kernel, by decide +kernel, ⟨by decide +kernel, by decide +kernel, by decide +kernel⟩, GW_tk 6 184 (by decide +kernel) rfl, GW_tk 1 1 (by decide +kernel) rfl, fun _ => ⟨GW_tk 6 182 (by decide +kernel) rfl, GW_tk 6 183 (by decide +kernel) rfl⟩, fun h => absurd h (by decide), fun h => absurd h (by decide)⟩
theorem q_mok156 : q_mok (q_ms 156) := ⟨by decide +kernel, by decide +kernel, ⟨by decide +kernel, by decide +kernel, by decide +kernel⟩, GW_tk 6 188 (by decide +kernel) rfl, GW_tk 1 2 (by decide +kernel) rfl, fun _ => ⟨GW_tk 6 186 (by decide +kernel) rfl, GW_tk 6 187 (by decide +kernel) rfl⟩, fun h => absurd h (by decide), fun h => absurd h (by decide)⟩
theorem q_mok157 : q_mok (q_ms 157) := ⟨by decide +kernel, by decide +kernel, ⟨by decide +kernel, by decide +kernel, by decide +kernel⟩, GW_tk 6 194 (by decide +kernel) rfl, GW_tk 1 14 (by decide +kernel) rfl, fun h => absurd h (by decide), fun h => absurd h (by decide), fun _ => ⟨GW_tk 6 193 (by decide +kernel) rfl, rfl, rfl⟩⟩
theorem q_mok158 : q_mok (q_ms 158) := ⟨by decide +kernel, by decide +kernel, ⟨by decide +kernel, by decide +kernel, by decide +kernel⟩, GW_tk 7 192 (by decide +kernel) rfl, GW_tk 1 14 (by decide +kernel) rfl, fun _ => ⟨GW_tk 7 190 (by decide +kernel) rfl, GW_tk 7 191 (by decide +kernel) rfl⟩, fun h => absurd h (by decide), fun h => absurd h (by decide)⟩
theorem q_mok159 : q_mok (q_ms 159) := ⟨by decide +kernel, by decide +kernel, ⟨by decide +kernel, by decide +kernel, by decide +kernel⟩, GW_tk 7 196 (by decide +kernel) rfl, GW_tk 1 14 (by decide +kernel) rfl, fun _ => ⟨GW_tk 7 194 (by decide +kernel) rfl, GW_tk 7 195 (by decide +kernel) rfl⟩, fun h => absurd h (by decide), fun h => absurd h (by decide)⟩
theorem q_mok160 : q_mok (q_ms 160) := ⟨by decide +kernel, by decide +kernel, ⟨by decide +kernel, by decide +kernel, by decide +kernel⟩, GW_tk 7 200 (by decide +kernel) rfl, GW_tk 1 14 (by decide +kernel) rfl, fun _ => ⟨GW_tk 7 199 (by decide +kernel) rfl, GW_sel 47 (by decide +kernel)⟩, fun h => absurd h (by decide), fun h => absurd h (by decide)⟩
theorem q_mok161 : q_mok (q_ms 161) := ⟨by decide +kernel, by decide +kernel, ⟨by decide +kernel, by decide +kernel, by decide +kernel⟩, GW_tk 7 204 (by decide +kernel) rfl, GW_tk 1 14 (by decide +kernel) rfl, fun _ => ⟨GW_tk 7 203 (by decide +kernel) rfl, GW_sel 48 (by decide +kernel)⟩, fun h => absurd h (by decide), fun h => absurd h (by decide)⟩
theorem q_mok162 : q_mok (q_ms 162) := ⟨by decide +kernel, by decide +kernel, ⟨by decide +kernel, by decide +kernel, by decide +kernel⟩, GW_tk 7 208 (by decide +kernel) rfl, GW_tk 1 14 (by decide +kernel) rfl, fun _ => ⟨GW_tk 7 206 (by decide +kernel) rfl, GW_tk 7 207 (by decide +kernel) rfl⟩, fun h => absurd h (by decide), fun h => absurd h (by decide)⟩
theorem q_mok163 : q_mok (q_ms 163) := ⟨by decide +kernel, by decide +kernel, ⟨by decide +kernel, by decide +kernel, by decide +kernel⟩, GW_tk 7 211 (by decide +kernel) rfl, GW_tk 1 14 (by decide +kernel) rfl, fun h => absurd h (by decide), fun _ => GW_tk 7 210 (by decide +kernel) rfl, fun h => absurd h (by decide)⟩
theorem q_mok164 : q_mok (q_ms 164) := ⟨by decide +kernel, by decide +kernel, ⟨by decide +kernel, by decide +kernel, by decide +kernel⟩, GW_tk 7 215 (by decide +kernel) rfl, GW_tk 1 14 (by decide +kernel) rfl, fun _ => ⟨GW_tk 7 213 (by decide +kernel) rfl, GW_tk 7 214 (by decide +kernel) rfl⟩, fun h => absurd h (by decide), fun h => absurd h (by decide)⟩
theorem q_mok165 : q_mok (q_ms 165) := ⟨by decide +kernel, by decide +kernel, ⟨by decide +kernel, by decide +kernel, by decide +kernel⟩, GW_tk 7 219 (by decide +kernel) rfl, GW_tk 1 14 (by decide +kernel) rfl, fun _ => ⟨GW_tk 7 218 (by decide +kernel) rfl, GW_sel 49 (by decide +kernel)⟩, fun h => absurd h (by decide), fun h => absurd h (by decide)⟩
theorem q_mok166 : q_mok (q_ms 166) := ⟨by decide +kernel, by decide +kernel, ⟨by decide +kernel, by decide +kernel, by decide +kernel⟩, GW_tk 7 223 (by decide +kernel) rfl, GW_tk 1 14 (by decide +kernel) rfl, fun _ => ⟨GW_tk 7 222 (by decide +kernel) rfl, GW_sel 50 (by decide +kernel)⟩, fun h => absurd h (by decide), fun h => absurd h (by decide)⟩
theorem q_mok167 : q_mok (q_ms 167) := ⟨by decide +kernel, by decide +kernel, ⟨by decide +kernel, by decide +kernel, by decide +kernel⟩, GW_tk 7 227 (by decide +kernel) rfl, GW_tk 1 14 (by decide +kernel) rfl, fun _ => ⟨GW_tk 7 226 (by decide +kernel) rfl, GW_sel 51 (by decide +kernel)⟩, fun h => absurd h (by decide), fun h => absurd h (by decide)⟩
theorem q_mok168 : q_mok (q_ms 168) := ⟨by decide +kernel, by decide +kernel, ⟨by decide +kernel, by decide +kernel, by decide +kernel⟩, GW_tk 7 231 (by decide +kernel) rfl, GW_tk 1 14 (by decide +kernel) rfl, fun _ => ⟨GW_tk 7 230 (by decide +kernel) rfl, GW_sel 52 (by decide +kernel)⟩, fun h => absurd h (by decide), fun h => absurd h (by decide)⟩
theorem q_mok169 : q_mok (q_ms 169) := ⟨by decide +kernel, by decide +kernel, ⟨by decide +kernel, by decide +kernel, by decide +kernel⟩, GW_tk 7 235 (by decide +kernel) rfl, GW_tk 1 14 (by decide +kernel) rfl, fun _ => ⟨GW_tk 7 234 (by decide +kernel) rfl, GW_sel 53 (by decide +kernel)⟩, fun h => absurd h (by decide), fun h => absurd h (by decide)⟩
theorem q_mok170 : q_mok (q_ms 170) := ⟨by decide +kernel, by decide +kernel, ⟨by decide +kernel, by decide +kernel, by decide +kernel⟩, GW_tk 7 239 (by decide +kernel) rfl, GW_tk 1 14 (by decide +kernel) rfl, fun _ => ⟨GW_tk 7 238 (by decide +kernel) rfl, GW_sel 54 (by decide +kernel)⟩, fun h => absurd h (by decide), fun h => absurd h (by decide)⟩
theorem q_mok171 : q_mok (q_ms 171) := ⟨by decide +kernel, by decide +kernel, ⟨by decide +kernel, by decide +kernel, by decide +kernel⟩, GW_tk 8 3 (by decide +kernel) rfl, GW_tk 1 14 (by decide +kernel) rfl, fun _ => ⟨GW_tk 8 2 (by decide +kernel) rfl, GW_sel 55 (by decide +kernel)⟩, fun h => absurd h (by decide), fun h => absurd h (by decide)⟩
theorem q_mok172 : q_mok (q_ms 172) := ⟨by decide +kernel, by decide +kernel, ⟨by decide +kernel, by decide +kernel, by decide +kernel⟩, GW_tk 8 7 (by decide +kernel) rfl, GW_tk 1 14 (by decide +kernel) rfl, fun _ => ⟨GW_tk 8 6 (by decide +kernel) rfl, GW_sel 56 (by decide +kernel)⟩, fun h => absurd h (by decide), fun h => absurd h (by decide)⟩
theorem q_mok173 : q_mok (q_ms 173) := ⟨by decide +kernel, by decide +kernel, ⟨by decide +kernel, by decide +kernel, by decide +kernel⟩, GW_tk 8 11 (by decide +kernel) rfl, GW_tk 1 14 (by decide +kernel) rfl, fun _ => ⟨GW_tk 8 10 (by decide +kernel) rfl, GW_sel 57 (by decide +kernel)⟩, fun h => absurd h (by decide), fun h => absurd h (by decide)⟩
theorem q_mok174 : q_mok (q_ms 174) := ⟨by decide +kernel, by decide +kernel, ⟨by decide +kernel, by decide +kernel, by decide +kernel⟩, GW_tk 8 15 (by decide +kernel) rfl, GW_tk 1 14 (by decide +kernel) rfl, fun _ => ⟨GW_tk 8 14 (by decide +kernel) rfl, GW_sel 58 (by decide +kernel)⟩, fun h => absurd h (by decide), fun h => absurd h (by decide)⟩
theorem q_mok175 : q_mok (q_ms 175) := ⟨by decide +kernel, by decide +kernel, ⟨by decide +kernel, by decide +kernel, by decide +kernel⟩, GW_tk 8 19 (by decide +kernel) rfl, GW_tk 1 14 (by decide +kernel) rfl, fun _ => ⟨GW_tk 8 18 (by decide +kernel) rfl, GW_sel 59 (by decide +kernel)⟩, fun h => absurd h (by decide), fun h => absurd h (by decide)⟩
theorem q_mok176 : q_mok (q_ms 176) := ⟨by decide +kernel, by decide +kernel, ⟨by decide +kernel, by decide +kernel, by decide +kernel⟩, GW_tk 8 23 (by decide +kernel) rfl, GW_tk 1 14 (by decide +kernel) rfl, fun _ => ⟨GW_tk 8 22 (by decide +kernel) rfl, GW_sel 60 (by decide +kernel)⟩, fun h => absurd h (by decide), fun h => absurd h (by decide)⟩
theorem q_mok177 : q_mok (q_ms 177) := ⟨by decide +kernel, by decide +kernel, ⟨by decide +kernel, by decide +kernel, by decide +kernel⟩, GW_tk 8 28 (by decide +kernel) rfl, GW_tk 1 14 (by decide +kernel) rfl, fun _ => ⟨GW_tk 8 27 (by decide +kernel) rfl, GW_sel 61 (by decide +kernel)⟩, fun h => absurd h (by decide), fun h => absurd h (by decide)⟩
theorem q_mok178 : q_mok (q_ms 178) := ⟨by decide +kernel, by decide +kernel, ⟨by decide +kernel, by decide +kernel, by decide +kernel⟩, GW_tk 8 32 (by decide +kernel) rfl, GW_tk 1 14 (by decide +kernel) rfl, fun _ => ⟨GW_tk 8 31 (by decide +kernel) rfl, GW_sel 62 (by decide +kernel)⟩, fun h => absurd h (by decide), fun h => absurd h (by decide)⟩
theorem q_mok179 : q_mok (q_ms 179) := ⟨by decide +kernel, by decide +kernel, ⟨by decide +kernel, by decide +kernel, by decide +kernel⟩, GW_tk 8 36 (by decide +kernel) rfl, GW_tk 1 14 (by decide +kernel) rfl, fun _ => ⟨GW_tk 8 35 (by decide +kernel) rfl, GW_sel 63 (by decide +kernel)⟩, fun h => absurd h (by decide), fun h => absurd h (by decide)⟩
theorem q_mok180 : q_mok (q_ms 180) := ⟨by decide +kernel, by decide +kernel, ⟨by decide +kernel, by decide +kernel, by decide +kernel⟩, GW_tk 8 40 (by decide +kernel) rfl, GW_tk 1 14 (by decide +kernel) rfl, fun _ => ⟨GW_tk 8 39 (by decide +kernel) rfl, GW_sel 64 (by decide +kernel)⟩, fun h => absurd h (by decide), fun h => absurd h (by decide)⟩
theorem q_mok181 : q_mok (q_ms 181) := ⟨by decide +kernel, by decide +kernel, ⟨by decide +kernel, by decide +kernel, by decide +kernel⟩, GW_tk 8 44 (by decide +kernel) rfl, GW_tk 1 14 (by decide +kernel) rfl, fun _ => ⟨GW_tk 8 43 (by decide +kernel) rfl, GW_sel 65 (by decide +kernel)⟩, fun h => absurd h (by decide), fun h => absurd h (by decide)⟩
theorem q_mok182 : q_mok (q_ms 182) := ⟨by decide +kernel, by decide +kernel, ⟨by decide +kernel, by decide +kernel, by decide +kernel⟩, GW_tk 8 48 (by decide +kernel) rfl, GW_tk 1 14 (by decide +kernel) rfl, fun _ => ⟨GW_tk 8 47 (by decide +kernel) rfl, GW_sel 66 (by decide +kernel)⟩, fun h => absurd h (by decide), fun h => absurd h (by decide)⟩
theorem q_mok183 : q_mok (q_ms 183) := ⟨by decide +kernel, by decide +kernel, ⟨by decide +kernel, by decide +kernel, by decide +kernel⟩, GW_tk 8 51 (by decide +kernel) rfl, GW_tk 1 14 (by decide +kernel) rfl, fun h => absurd h (by decide), fun _ => GW_tk 8 50 (by decide +kernel) rfl, fun h => absurd h (by decide)⟩
theorem q_mok184 : q_mok (q_ms 184) := ⟨by decide +kernel, by decide +kernel, ⟨by decide +kernel, by decide +kernel, by decide +kernel⟩, GW_tk 8 54 (by decide +kernel) rfl, GW_tk 1 14 (by decide +kernel) rfl, fun h => absurd h (by decide), fun _ => GW_tk 8 53 (by decide +kernel) rfl, fun h => absurd h (by decide)⟩
theorem q_mok185 : q_mok (q_ms 185) := ⟨by decide +kernel, by decide +kernel, ⟨by decide +kernel, by decide +kernel, by decide +kernel⟩, GW_tk 8 57 (by decide +kernel) rfl, GW_tk 1 14 (by decide +kernel) rfl, fun h => absurd h (by decide), fun _ => GW_tk 8 56 (by decide +kernel) rfl, fun h => absurd h (by decide)⟩
theorem q_mok186 : q_mok (q_ms 186) := ⟨by decide +kernel, by decide +kernel, ⟨by decide +kernel, by decide +kernel, by decide +kernel⟩, GW_tk 8 60 (by decide +kernel) rfl, GW_tk 1 14 (by decide +kernel) rfl, fun h => absurd h (by decide), fun _ => GW_tk 8 59 (by decide +kernel) rfl, fun h => absurd h (by decide)⟩
theorem q_mok187 : q_mok (q_ms 187) := ⟨by decide +kernel, by decide +kernel, ⟨by decide +kernel, by decide +kernel, by decide +kernel⟩, GW_tk 8 64 (by decide +kernel) rfl, GW_tk 1 14 (by decide +kernel) rfl, fun _ => ⟨GW_tk 8 63 (by decide +kernel) rfl, GW_sel 67 (by decide +kernel)⟩, fun h => absurd h (by decide), fun h => absurd h (by decide)⟩
theorem q_mok188 : q_mok (q_ms 188) := ⟨by decide +kernel, by decide +kernel, ⟨by decide +kernel, by decide +kernel, by decide +kernel⟩, GW_tk 8 69 (by decide +kernel) rfl, GW_tk 1 14 (by decide +kernel) rfl, fun _ => ⟨GW_tk 8 67 (by decide +kernel) rfl, GW_tk 8 68 (by decide +kernel) rfl⟩, fun h => absurd h (by decide), fun h => absurd h (by decide)⟩
theorem q_mok189 : q_mok (q_ms 189) := ⟨by decide +kernel, by decide +kernel, ⟨by decide +kernel, by decide +kernel, by decide +kernel⟩, GW_tk 8 73 (by decide +kernel) rfl, GW_tk 1 14 (by decide +kernel) rfl, fun _ => ⟨GW_tk 8 71 (by decide +kernel) rfl, GW_tk 8 72 (by decide +kernel) rfl⟩, fun h => absurd h (by decide), fun h => absurd h (by decide)⟩
theorem q_mok190 : q_mok (q_ms 190) := ⟨by decide +kernel, by decide +kernel, ⟨by decide +kernel, by decide +kernel, by decide +kernel⟩, GW_tk 8 77 (by decide +kernel) rfl, GW_tk 1 14 (by decide +kernel) rfl, fun _ => ⟨GW_tk 8 76 (by decide +kernel) rfl, GW_sel 68 (by decide +kernel)⟩, fun h => absurd h (by decide), fun h => absurd h (by decide)⟩
theorem q_mok191 : q_mok (q_ms 191) := ⟨by decide +kernel, by decide +kernel, ⟨by decide +kernel, by decide +kernel, by decide +kernel⟩, GW_tk 8 81 (by decide +kernel) rfl, GW_tk 1 14 (by decide +kernel) rfl, fun _ => ⟨GW_tk 8 80 (by decide +kernel) rfl, GW_sel 69 (by decide +kernel)⟩, fun h => absurd h (by decide), fun h => absurd h (by decide)⟩
theorem q_mok192 : q_mok (q_ms 192) := ⟨by decide +kernel, by decide +kernel, ⟨by decide +kernel, by decide +kernel, by decide +kernel⟩, GW_tk 8 85 (by decide +kernel) rfl, GW_tk 1 14 (by decide +kernel) rfl, fun _ => ⟨GW_tk 8 84 (by decide +kernel) rfl, GW_sel 70 (by decide +kernel)⟩, fun h => absurd h (by decide), fun h => absurd h (by decide)⟩
theorem q_mok193 : q_mok (q_ms 193) := ⟨by decide +kernel, by decide +kernel, ⟨by decide +kernel, by decide +kernel, by decide +kernel⟩, GW_tk 8 89 (by decide +kernel) rfl, GW_tk 1 14 (by decide +kernel) rfl, fun _ => ⟨GW_tk 8 88 (by decide +kernel) rfl, GW_sel 71 (by decide +kernel)⟩, fun h => absurd h (by decide), fun h => absurd h (by decide)⟩
theorem q_mok194 : q_mok (q_ms 194) := ⟨by decide +kernel, by decide +kernel, ⟨by decide +kernel, by decide +kernel, by decide +kernel⟩, GW_tk 8 93 (by decide +kernel) rfl, GW_tk 1 14 (by decide +kernel) rfl, fun _ => ⟨GW_tk 8 92 (by decide +kernel) rfl, GW_sel 72 (by decide +kernel)⟩, fun h => absurd h (by decide), fun h => absurd h (by decide)⟩
theorem q_mok195 : q_mok (q_ms 195) := ⟨by decide +kernel, by decide +kernel, ⟨by decide +kernel, by decide +kernel, by decide +kernel⟩, GW_tk 8 97 (by decide +kernel) rfl, GW_tk 1 14 (by decide +kernel) rfl, fun _ => ⟨GW_tk 8 96 (by decide +kernel) rfl, GW_sel 73 (by decide +kernel)⟩, fun h => absurd h (by decide), fun h => absurd h (by decide)⟩
theorem q_mok196 : q_mok (q_ms 196) := ⟨by decide +kernel, by decide +kernel, ⟨by decide +kernel, by decide +kernel, by decide +kernel⟩, GW_tk 8 101 (by decide +kernel) rfl, GW_tk 1 14 (by decide +kernel) rfl, fun _ => ⟨GW_tk 8 100 (by decide +kernel) rfl, GW_sel 74 (by decide +kernel)⟩, fun h => absurd h (by decide), fun h => absurd h (by decide)⟩
theorem q_mok197 : q_mok (q_ms 197) := ⟨by decide +kernel, by decide +kernel, ⟨by decide +kernel, by decide +kernel, by decide +kernel⟩, GW_tk 8 105 (by decide +kernel) rfl, GW_tk 1 14 (by decide +kernel) rfl, fun _ => ⟨GW_tk 8 104 (by decide +kernel) rfl, GW_sel 75 (by decide +kernel)⟩, fun h => absurd h (by decide), fun h => absurd h (by decide)⟩
theorem q_mok198 : q_mok (q_ms 198) := ⟨by decide +kernel, by decide +kernel, ⟨by decide +kernel, by decide +kernel, by decide +kernel⟩, GW_tk 8 109 (by decide +kernel) rfl, GW_tk 1 14 (by decide +kernel) rfl, fun _ => ⟨GW_tk 8 108 (by decide +kernel) rfl, GW_sel 76 (by decide +kernel)⟩, fun h => absurd h (by decide), fun h => absurd h (by decide)⟩
theorem q_mok199 : q_mok (q_ms 199) := ⟨by decide +kernel, by decide +kernel, ⟨by decide +kernel, by decide +kernel, by decide +kernel⟩, GW_tk 8 113 (by decide +kernel) rfl, GW_tk 1 14 (by decide +kernel) rfl, fun _ => ⟨GW_tk 8 112 (by decide +kernel) rfl, GW_sel 77 (by decide +kernel)⟩, fun h => absurd h (by decide), fun h => absurd h (by decide)⟩
theorem q_mok200 : q_mok (q_ms 200) := ⟨by decide +kernel, by decide +kernel, ⟨by decide +kernel, by decide +kernel, by decide +kernel⟩, GW_tk 8 117 (by decide +kernel) rfl, GW_tk 1 14 (by decide +kernel) rfl, fun _ => ⟨GW_tk 8 116 (by decide +kernel) rfl, GW_sel 78 (by decide +kernel)⟩, fun h => absurd h (by decide), fun h => absurd h (by decide)⟩
theorem q_mok201 : q_mok (q_ms 201) := ⟨by decide +kernel, by decide +kernel, ⟨by decide +kernel, by decide +kernel, by decide +kernel⟩, GW_tk 8 121 (by decide +kernel) rfl, GW_tk 1 14 (by decide +kernel) rfl, fun _ => ⟨GW_tk 8 120 (by decide +kernel) rfl, GW_sel 79 (by decide +kernel)⟩, fun h => absurd h (by decide), fun h => absurd h (by decide)⟩
theorem q_mok202 : q_mok (q_ms 202) := ⟨by decide +kernel, by decide +kernel, ⟨by decide +kernel, by decide +kernel, by decide +kernel⟩, GW_tk 8 125 (by decide +kernel) rfl, GW_tk 1 14 (by decide +kernel) rfl, fun _ => ⟨GW_tk 8 124 (by decide +kernel) rfl, GW_sel 80 (by decide +kernel)⟩, fun h => absurd h (by decide), fun h => absurd h (by decide)⟩
theorem q_mok203 : q_mok (q_ms 203) := ⟨by decide +kernel, by decide +kernel, ⟨by decide +kernel, by decide +kernel, by decide +kernel⟩, GW_tk 8 129 (by decide +kernel) rfl, GW_tk 1 14 (by decide +kernel) rfl, fun _ => ⟨GW_tk 8 128 (by decide +kernel) rfl, GW_sel 81 (by decide +kernel)⟩, fun h => absurd h (by decide), fun h => absurd h (by decide)⟩
theorem q_mok204 : q_mok (q_ms 204) := ⟨by decide +kernel, by decide +kernel, ⟨by decide +kernel, by decide +kernel, by decide +kernel⟩, GW_tk 8 133 (by decide +kernel) rfl, GW_tk 1 14 (by decide +kernel) rfl, fun _ => ⟨GW_tk 8 132 (by decide +kernel) rfl, GW_sel 82 (by decide +kernel)⟩, fun h => absurd h (by decide), fun h => absurd h (by decide)⟩
theorem q_mok205 : q_mok (q_ms 205) := ⟨by decide +kernel, by decide +kernel, ⟨by decide +kernel, by decide +kernel, by decide +kernel⟩, GW_tk 8 137 (by decide +kernel) rfl, GW_tk 1 14 (by decide +kernel) rfl, fun _ => ⟨GW_tk 8 136 (by decide +kernel) rfl, GW_sel 83 (by decide +kernel)⟩, fun h => absurd h (by decide), fun h => absurd h (by decide)⟩
theorem q_mok206 : q_mok (q_ms 206) := ⟨by decide +kernel, by decide +kernel, ⟨by decide +kernel, by decide +kernel, by decide +kernel⟩, GW_tk 8 141 (by decide +kernel) rfl, GW_tk 1 14 (by decide +kernel) rfl, fun _ => ⟨GW_tk 8 140 (by decide +kernel) rfl, GW_sel 84 (by decide +kernel)⟩, fun h => absurd h (by decide), fun h => absurd h (by decide)⟩
theorem q_mok207 : q_mok (q_ms 207) := ⟨by decide +kernel, by decide +kernel, ⟨by decide +kernel, by decide +kernel, by decide +kernel⟩, GW_tk 8 145 (by decide +kernel) rfl, GW_tk 1 14 (by decide +kernel) rfl, fun _ => ⟨GW_tk 8 144 (by decide +kernel) rfl, GW_sel 85 (by decide +kernel)⟩, fun h => absurd h (by decide), fun h => absurd h (by decide)⟩
theorem q_mok208 : q_mok (q_ms 208) := ⟨by decide +kernel, by decide +kernel, ⟨by decide +kernel, by decide +kernel, by decide +kernel⟩, GW_tk 8 149 (by decide +kernel) rfl, GW_tk 1 14 (by decide +kernel) rfl, fun _ => ⟨GW_tk 8 148 (by decide +kernel) rfl, GW_sel 86 (by decide +kernel)⟩, fun h => absurd h (by decide), fun h => absurd h (by decide)⟩
theorem q_mok209 : q_mok (q_ms 209) := ⟨by decide +kernel, by decide +kernel, ⟨by decide +kernel, by decide +kernel, by decide +kernel⟩, GW_tk 8 153 (by decide +kernel) rfl, GW_tk 1 14 (by decide +kernel) rfl, fun _ => ⟨GW_tk 8 152 (by decide +kernel) rfl, GW_sel 87 (by decide +kernel)⟩, fun h => absurd h (by decide), fun h => absurd h (by decide)⟩
theorem q_mok210 : q_mok (q_ms 210) := ⟨by decide +kernel, by decide +kernel, ⟨by decide +kernel, by decide +kernel, by decide +kernel⟩, GW_tk 8 157 (by decide +kernel) rfl, GW_tk 1 14 (by decide +kernel) rfl, fun _ => ⟨GW_tk 8 156 (by decide +kernel) rfl, GW_sel 88 (by decide +kernel)⟩, fun h => absurd h (by decide), fun h => absurd h (by decide)⟩
theorem q_mok211 : q_mok (q_ms 211) := ⟨by decide +kernel, by decide +kernel, ⟨by decide +kernel, by decide +kernel, by decide +kernel⟩, GW_tk 8 161 (by decide +kernel) rfl, GW_tk 1 14 (by decide +kernel) rfl, fun _ => ⟨GW_tk 8 160 (by decide +kernel) rfl, GW_sel 89 (by decide +kernel)⟩, fun h => absurd h (by decide), fun h => absurd h (by decide)⟩
theorem q_mok212 : q_mok (q_ms 212) := ⟨by decide +kernel, by decide +kernel, ⟨by decide +kernel, by decide +kernel, by decide +kernel⟩, GW_tk 8 165 (by decide +kernel) rfl, GW_tk 1 14 (by decide +kernel) rfl, fun _ => ⟨GW_tk 8 163 (by decide +kernel) rfl, GW_tk 8 164 (by decide +kernel) rfl⟩, fun h => absurd h (by decide), fun h => absurd h (by decide)⟩
theorem q_mok213 : q_mok (q_ms 213) := ⟨by decide +kernel, by decide +kernel, ⟨by decide +kernel, by decide +kernel, by decide +kernel⟩, GW_tk 8 169 (by decide +kernel) rfl, GW_tk 1 14 (by decide +kernel) rfl, fun _ => ⟨GW_tk 8 167 (by decide +kernel) rfl, GW_tk 8 168 (by decide +kernel) rfl⟩, fun h => absurd h (by decide), fun h => absurd h (by decide)⟩
theorem q_mok214 : q_mok (q_ms 214) := ⟨by decide +kernel, by decide +kernel, ⟨by decide +kernel, by decide +kernel, by decide +kernel⟩, GW_tk 8 173 (by decide +kernel) rfl, GW_tk 1 14 (by decide +kernel) rfl, fun _ => ⟨GW_tk 8 172 (by decide +kernel) rfl, GW_sel 90 (by decide +kernel)⟩, fun h => absurd h (by decide), fun h => absurd h (by decide)⟩
theorem q_mok215 : q_mok (q_ms 215) := ⟨by decide +kernel, by decide +kernel, ⟨by decide +kernel, by decide +kernel, by decide +kernel⟩, GW_tk 8 177 (by decide +kernel) rfl, GW_tk 1 14 (by decide +kernel) rfl, fun _ => ⟨GW_tk 8 176 (by decide +kernel) rfl, GW_sel 91 (by decide +kernel)⟩, fun h => absurd h (by decide), fun h => absurd h (by decide)⟩
theorem q_mok216 : q_mok (q_ms 216) := ⟨by decide +kernel, by decide +kernel, ⟨by decide +kernel, by decide +kernel, by decide +kernel⟩, GW_tk 8 181 (by decide +kernel) rfl, GW_tk 1 14 (by decide +kernel) rfl, fun _ => ⟨GW_tk 8 180 (by decide +kernel) rfl, GW_sel 92 (by decide +kernel)⟩, fun h => absurd h (by decide), fun h => absurd h (by decide)⟩
theorem q_mok217 : q_mok (q_ms 217) := ⟨by decide +kernel, by decide +kernel, ⟨by decide +kernel, by decide +kernel, by decide +kernel⟩, GW_tk 8 185 (by decide +kernel) rfl, GW_tk 1 14 (by decide +kernel) rfl, fun _ => ⟨GW_tk 8 183 (by decide +kernel) rfl, GW_tk 8 184 (by decide +kernel) rfl⟩, fun h => absurd h (by decide), fun h => absurd h (by decide)⟩
theorem q_mok218 : q_mok (q_ms 218) := ⟨by decide +kernel, by decide +kernel, ⟨by decide +kernel, by decide +kernel, by decide +kernel⟩, GW_tk 8 189 (by decide +kernel) rfl, GW_tk 1 14 (by decide +kernel) rfl, fun _ => ⟨GW_tk 8 187 (by decide +kernel) rfl, GW_tk 8 188 (by decide +kernel) rfl⟩, fun h => absurd h (by decide), fun h => absurd h (by decide)⟩
theorem q_mok219 : q_mok (q_ms 219) := ⟨by decide +kernel, by decide +kernel, ⟨by decide +kernel, by decide +kernel, by decide +kernel⟩, GW_tk 8 193 (by decide +kernel) rfl, GW_tk 1 14 (by decide +kernel) rfl, fun _ => ⟨GW_tk 8 192 (by decide +kernel) rfl, GW_sel 93 (by decide +kernel)⟩, fun h => absurd h (by decide), fun h => absurd h (by decide)⟩
theorem q_mok220 : q_mok (q_ms 220) := ⟨by decide +kernel, by decide +kernel, ⟨by decide +kernel, by decide +kernel, by decide +kernel⟩, GW_tk 8 197 (by decide +kernel) rfl, GW_tk 1 14 (by decide +kernel) rfl, fun _ => ⟨GW_tk 8 196 (by decide +kernel) rfl, GW_sel 94 (by decide +kernel)⟩, fun h => absurd h (by decide), fun h => absurd h (by decide)⟩
theorem q_mok221 : q_mok (q_ms 221) := ⟨by decide +kernel, by decide +kernel, ⟨by decide +kernel, by decide +kernel, by decide +kernel⟩, GW_tk 8 201 (by decide +kernel) rfl, GW_tk 1 14 (by decide +kernel) rfl, fun _ => ⟨GW_tk 8 199 (by decide +kernel) rfl, GW_tk 8 200 (by decide +kernel) rfl⟩, fun h => absurd h (by decide), fun h => absurd h (by decide)⟩
theorem q_mok222 : q_mok (q_ms 222) := ⟨by decide +kernel, by decide +kernel, ⟨by decide +kernel, by decide +kernel, by decide +kernel⟩, GW_tk 8 205 (by decide +kernel) rfl, GW_tk 1 14 (by decide +kernel) rfl, fun _ => ⟨GW_tk 8 204 (by decide +kernel) rfl, GW_sel 95 (by decide +kernel)⟩, fun h => absurd h (by decide), fun h => absurd h (by decide)⟩
theorem q_mok223 : q_mok (q_ms 223) := ⟨by decide +kernel, by decide +kernel, ⟨by decide +kernel, by decide +kernel, by decide +kernel⟩, GW_tk 8 209 (by decide +kernel) rfl, GW_tk 1 14 (by decide +kernel) rfl, fun _ => ⟨GW_tk 8 207 (by decide +kernel) rfl, GW_tk 8 208 (by decide +kernel) rfl⟩, fun h => absurd h (by decide), fun h => absurd h (by decide)⟩
theorem q_mok224 : q_mok (q_ms 224) := ⟨by decide +kernel, by decide +kernel, ⟨by decide +kernel, by decide +kernel, by decide +kernel⟩, GW_tk 8 213 (by decide +kernel) rfl, GW_tk 1 14 (by decide +kernel) rfl, fun _ => ⟨GW_tk 8 211 (by decide +kernel) rfl, GW_tk 8 212 (by decide +kernel) rfl⟩, fun h => absurd h (by decide), fun h => absurd h (by decide)⟩
theorem q_moks : ∀ k, k < 225 → q_mok (q_ms k) := by
  intro k hk
  match k, hk with
  | 0, _ => exact q_mok0
  | 1, _ => exact q_mok1
  | 2, _ => exact q_mok2
  | 3, _ => exact q_mok3
  | 4, _ => exact q_mok4
  | 5, _ => exact q_mok5
  | 6, _ => exact q_mok6
  | 7, _ => exact q_mok7
  | 8, _ => exact q_mok8
  | 9, _ => exact q_mok9
  | 10, _ => exact q_mok10
  | 11, _ => exact q_mok11
  | 12, _ => exact q_mok12
  | 13, _ => exact q_mok13
  | 14, _ => exact q_mok14
  | 15, _ => exact q_mok15
  | 16, _ => exact q_mok16
  | 17, _ => exact q_mok17
  | 18, _ => exact q_mok18
  | 19, _ => exact q_mok19
  | 20, _ => exact q_mok20
  | 21, _ => exact q_mok21
  | 22, _ => exact q_mok22
  | 23, _ => exact q_mok23
  | 24, _ => exact q_mok24
  | 25, _ => exact q_mok25
  | 26, _ => exact q_mok26
  | 27, _ => exact q_mok27
  | 28, _ => exact q_mok28
  | 29, _ => exact q_mok29
  | 30, _ => exact q_mok30
  | 31, _ => exact q_mok31
  | 32, _ => exact q_mok32
  | 33, _ => exact q_mok33
  | 34, _ => exact q_mok34
  | 35, _ => exact q_mok35
  | 36, _ => exact q_mok36
  | 37, _ => exact q_mok37
  | 38, _ => exact q_mok38
  | 39, _ => exact q_mok39
  | 40, _ => exact q_mok40
  | 41, _ => exact q_mok41
  | 42, _ => exact q_mok42
  | 43, _ => exact q_mok43
  | 44, _ => exact q_mok44
  | 45, _ => exact q_mok45
  | 46, _ => exact q_mok46
  | 47, _ => exact q_mok47
  | 48, _ => exact q_mok48
  | 49, _ => exact q_mok49
  | 50, _ => exact q_mok50
  | 51, _ => exact q_mok51
  | 52, _ => exact q_mok52
  | 53, _ => exact q_mok53
  | 54, _ => exact q_mok54
  | 55, _ => exact q_mok55
  | 56, _ => exact q_mok56
  | 57, _ => exact q_mok57
  | 58, _ => exact q_mok58
  | 59, _ => exact q_mok59
  | 60, _ => exact q_mok60
  | 61, _ => exact q_mok61
  | 62, _ => exact q_mok62
  | 63, _ => exact q_mok63
  | 64, _ => exact q_mok64
  | 65, _ => exact q_mok65
  | 66, _ => exact q_mok66
  | 67, _ => exact q_mok67
  | 68, _ => exact q_mok68
  | 69, _ => exact q_mok69
  | 70, _ => exact q_mok70
  | 71, _ => exact q_mok71
  | 72, _ => exact q_mok72
  | 73, _ => exact q_mok73
  | 74, _ => exact q_mok74
  | 75, _ => exact q_mok75
  | 76, _ => exact q_mok76
  | 77, _ => exact q_mok77
  | 78, _ => exact q_mok78
  | 79, _ => exact q_mok79
  | 80, _ => exact q_mok80
  | 81, _ => exact q_mok81
  | 82, _ => exact q_mok82
  | 83, _ => exact q_mok83
  | 84, _ => exact q_mok84
  | 85, _ => exact q_mok85
  | 86, _ => exact q_mok86
  | 87, _ => exact q_mok87
  | 88, _ => exact q_mok88
  | 89, _ => exact q_mok89
  | 90, _ => exact q_mok90
  | 91, _ => exact q_mok91
  | 92, _ => exact q_mok92
  | 93, _ => exact q_mok93
  | 94, _ => exact q_mok94
  | 95, _ => exact q_mok95
  | 96, _ => exact q_mok96
  | 97, _ => exact q_mok97
  | 98, _ => exact q_mok98
  | 99, _ => exact q_mok99
  | 100, _ => exact q_mok100
  | 101, _ => exact q_mok101
  | 102, _ => exact q_mok102
  | 103, _ => exact q_mok103
  | 104, _ => exact q_mok104
  | 105, _ => exact q_mok105
  | 106, _ => exact q_mok106
  | 107, _ => exact q_mok107
  | 108, _ => exact q_mok108
  | 109, _ => exact q_mok109
  | 110, _ => exact q_mok110
  | 111, _ => exact q_mok111
  | 112, _ => exact q_mok112
  | 113, _ => exact q_mok113
  | 114, _ => exact q_mok114
  | 115, _ => exact q_mok115
  | 116, _ => exact q_mok116
  | 117, _ => exact q_mok117
  | 118, _ => exact q_mok118
  | 119, _ => exact q_mok119
  | 120, _ => exact q_mok120
  | 121, _ => exact q_mok121
  | 122, _ => exact q_mok122
  | 123, _ => exact q_mok123
  | 124, _ => exact q_mok124
  | 125, _ => exact q_mok125
  | 126, _ => exact q_mok126
  | 127, _ => exact q_mok127
  | 128, _ => exact q_mok128
  | 129, _ => exact q_mok129
  | 130, _ => exact q_mok130
  | 131, _ => exact q_mok131
  | 132, _ => exact q_mok132
  | 133, _ => exact q_mok133
  | 134, _ => exact q_mok134
  | 135, _ => exact q_mok135
  | 136, _ => exact q_mok136
  | 137, _ => exact q_mok137
  | 138, _ => exact q_mok138
  | 139, _ => exact q_mok139
  | 140, _ => exact q_mok140
  | 141, _ => exact q_mok141
  | 142, _ => exact q_mok142
  | 143, _ => exact q_mok143
  | 144, _ => exact q_mok144
  | 145, _ => exact q_mok145
  | 146, _ => exact q_mok146
  | 147, _ => exact q_mok147
  | 148, _ => exact q_mok148
  | 149, _ => exact q_mok149
  | 150, _ => exact q_mok150
  | 151, _ => exact q_mok151
  | 152, _ => exact q_mok152
  | 153, _ => exact q_mok153
  | 154, _ => exact q_mok154
  | 155, _ => exact q_mok155
  | 156, _ => exact q_mok156
  | 157, _ => exact q_mok157
  | 158, _ => exact q_mok158
  | 159, _ => exact q_mok159
  | 160, _ => exact q_mok160
  | 161, _ => exact q_mok161
  | 162, _ => exact q_mok162
  | 163, _ => exact q_mok163
  | 164, _ => exact q_mok164
  | 165, _ => exact q_mok165
  | 166, _ => exact q_mok166
  | 167, _ => exact q_mok167
  | 168, _ => exact q_mok168
  | 169, _ => exact q_mok169
  | 170, _ => exact q_mok170
  | 171, _ => exact q_mok171
  | 172, _ => exact q_mok172
  | 173, _ => exact q_mok173
  | 174, _ => exact q_mok174
  | 175, _ => exact q_mok175
  | 176, _ => exact q_mok176
  | 177, _ => exact q_mok177
  | 178, _ => exact q_mok178
  | 179, _ => exact q_mok179
  | 180, _ => exact q_mok180
  | 181, _ => exact q_mok181
  | 182, _ => exact q_mok182
  | 183, _ => exact q_mok183
  | 184, _ => exact q_mok184
  | 185, _ => exact q_mok185
  | 186, _ => exact q_mok186
  | 187, _ => exact q_mok187
  | 188, _ => exact q_mok188
  | 189, _ => exact q_mok189
  | 190, _ => exact q_mok190
  | 191, _ => exact q_mok191
  | 192, _ => exact q_mok192
  | 193, _ => exact q_mok193
  | 194, _ => exact q_mok194
  | 195, _ => exact q_mok195
  | 196, _ => exact q_mok196
  | 197, _ => exact q_mok197
  | 198, _ => exact q_mok198
  | 199, _ => exact q_mok199
  | 200, _ => exact q_mok200
  | 201, _ => exact q_mok201
  | 202, _ => exact q_mok202
  | 203, _ => exact q_mok203
  | 204, _ => exact q_mok204
  | 205, _ => exact q_mok205
  | 206, _ => exact q_mok206
  | 207, _ => exact q_mok207
  | 208, _ => exact q_mok208
  | 209, _ => exact q_mok209
  | 210, _ => exact q_mok210
  | 211, _ => exact q_mok211
  | 212, _ => exact q_mok212
  | 213, _ => exact q_mok213
  | 214, _ => exact q_mok214
  | 215, _ => exact q_mok215
  | 216, _ => exact q_mok216
  | 217, _ => exact q_mok217
  | 218, _ => exact q_mok218
  | 219, _ => exact q_mok219
  | 220, _ => exact q_mok220
  | 221, _ => exact q_mok221
  | 222, _ => exact q_mok222
  | 223, _ => exact q_mok223
  | 224, _ => exact q_mok224
  | k + 225, hk => exact absurd hk (by omega)
/-- the links to private members of the nest -/
def q_NW : List Cond := [Cond.methodLinkNest (oN 8) 65 ⟨"PatternTrier", "cell", "([II)I"⟩ "PatternTrier", Cond.methodLinkNest (oN 8) 47 ⟨"PatternTrier", "put", "([III)V"⟩ "PatternTrier", Cond.methodLinkNest (oN 7) 19 ⟨"PatternTrier", "put", "([III)V"⟩ "PatternTrier", Cond.methodLinkNest (oN 7) 23 ⟨"PatternTrier", "cell", "([II)I"⟩ "PatternTrier", Cond.methodLinkNest (oN 6) 115 ⟨"PatternTrier", "isLetter", "(I)Z"⟩ "PatternTrier", Cond.methodLinkNest (oN 6) 118 ⟨"PatternTrier", "isDigit", "(I)Z"⟩ "PatternTrier", Cond.methodLinkNest (oN 5) 57 ⟨"PatternTrier", "put", "([III)V"⟩ "PatternTrier", Cond.methodLinkNest (oN 2) 33 ⟨"PatternTrier", "cell", "([II)I"⟩ "PatternTrier", Cond.methodLinkNest (oN 9) 71 ⟨"PatternTrier", "put", "([III)V"⟩ "PatternTrier", Cond.methodLinkNest (oN 9) 167 ⟨"PatternTrier", "isLetter", "(I)Z"⟩ "PatternTrier", Cond.methodLinkNest (oN 9) 170 ⟨"PatternTrier", "isDigit", "(I)Z"⟩ "PatternTrier", Cond.methodLinkNest (oN 4) 24 ⟨"PatternTrier", "cell", "([II)I"⟩ "PatternTrier", Cond.methodLinkNest (oN 4) 37 ⟨"PatternTrier", "put", "([III)V"⟩ "PatternTrier", Cond.methodLinkNest (oN 2) 39 ⟨"PatternTrier", "put", "([III)V"⟩ "PatternTrier", Cond.methodLinkNest (oN 3) 19 ⟨"PatternTrier", "put", "([III)V"⟩ "PatternTrier", Cond.methodLinkNest (oN 3) 23 ⟨"PatternTrier", "cell", "([II)I"⟩ "PatternTrier", Cond.fieldLinkNest "PatternTrier$Sets" 27 "PatternTrier" "CLASSES" "[I" "PatternTrier"]
set_option maxRecDepth 100000 in
theorem q_MT_ok : q_MT.all (fun e => decide (e.2.2.1 < 225) && (if (q_ms e.2.2.1).1 = 3 then decide (Cond.methodLinkNest (oN e.1) e.2.1 (q_ms e.2.2.1).2.2.2.2.2.2 "PatternTrier" ∈ q_NW) else decide ((q_tb e.2.2.2.1)[e.2.2.2.2]? = some (Cond.methodLink (oN e.1) e.2.1 (q_ms e.2.2.1).2.2.2.2.2.2)))) = true := by decide +kernel
theorem q_mth_ok {o i k : Nat} (h : q_mth o i = some k) : q_mok (q_ms k) ∧ ((q_ms k).1 = 3 → Cond.methodLinkNest (oN o) i (q_ms k).2.2.2.2.2.2 "PatternTrier" ∈ q_NW) ∧ (¬ (q_ms k).1 = 3 → Cond.methodLink (oN o) i (q_ms k).2.2.2.2.2.2 ∈ GW) := by
  unfold q_mth at h
  obtain ⟨e, he, h2⟩ := Option.map_eq_some_iff.mp h
  have h3 := List.all_eq_true.mp q_MT_ok e (List.mem_of_find?_eq_some he)
  have h4 := List.find?_some he
  simp only [Bool.and_eq_true, decide_eq_true_eq, beq_iff_eq] at h3 h4
  subst h2
  obtain ⟨h5, h6⟩ := h3
  rw [h4.1, h4.2] at h6
  refine ⟨q_moks _ h5, fun h7 => ?_, fun h7 => ?_⟩
  · rw [if_pos h7] at h6; exact of_decide_eq_true h6
  · rw [if_neg h7] at h6; exact GW_tk _ _ (of_decide_eq_true h6) rfl
