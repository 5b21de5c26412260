/-! the law's wrappers (written by wip/whole/gen_wrap.py out of tables_1): methods with tables, the links to them, the classes that their tables name -/
abbrev qHT : Type := List (Nat × Nat × Nat × Nat)
def q_wm : Nat → qM × qHT := fun k => match k with
  | 0 => ((1, 12, method_3_code, 8, some ClassFile.FieldType.int, 7, ⟨"PatternTrierLaw", "feed", "(LPatternTrier;IIIII[J)I"⟩), [(0, 16, 19, 13)])
  | 1 => ((1, 12, method_4_code, 4, some ClassFile.FieldType.int, 3, ⟨"PatternTrierLaw", "end", "(LPatternTrier;I[J)I"⟩), [(0, 9, 12, 19)])
  | 2 => ((1, 12, method_5_code, 4, some ClassFile.FieldType.int, 3, ⟨"PatternTrierLaw", "pattern", "(LPatternTrier;I[J)I"⟩), [(0, 9, 12, 19), (0, 9, 15, 24), (0, 9, 18, 13)])
  | 3 => ((1, 12, method_6_code, 4, some ClassFile.FieldType.int, 3, ⟨"PatternTrierLaw", "text", "(LPatternTrier;I[J)I"⟩), [(0, 9, 12, 19), (0, 9, 15, 13)])
  | 4 => ((1, 12, method_7_code, 7, some ClassFile.FieldType.int, 6, ⟨"PatternTrierLaw", "match", "(LPatternTrier;IIII[J)I"⟩), [(0, 14, 17, 19), (0, 14, 21, 33), (0, 14, 25, 13)])
  | 5 => ((1, 12, method_8_code, 5, some ClassFile.FieldType.int, 4, ⟨"PatternTrierLaw", "group", "(LPatternTrier;II[J)I"⟩), [(0, 10, 13, 19)])
  | 6 => ((1, 12, method_9_code, 5, some ClassFile.FieldType.int, 4, ⟨"PatternTrierLaw", "find", "(LPatternTrier;II[J)I"⟩), [(0, 10, 13, 19), (0, 10, 17, 33), (0, 10, 21, 13)])
  | 7 => ((1, 12, method_10_code, 5, some ClassFile.FieldType.int, 4, ⟨"PatternTrierLaw", "found", "(LPatternTrier;II[J)I"⟩), [(0, 10, 13, 19), (0, 10, 17, 13)])
  | 8 => ((1, 12, method_11_code, 5, some ClassFile.FieldType.int, 4, ⟨"PatternTrierLaw", "replace", "(LPatternTrier;II[J)I"⟩), [(0, 10, 13, 19), (0, 10, 17, 33), (0, 10, 21, 48), (0, 10, 25, 24), (0, 10, 29, 13)])
  | 9 => ((1, 12, method_12_code, 6, some ClassFile.FieldType.int, 5, ⟨"PatternTrierLaw", "span", "(LPatternTrier;III[J)I"⟩), [(0, 12, 15, 19), (0, 12, 19, 33), (0, 12, 23, 54)])
  | 10 => ((1, 12, method_13_code, 5, some ClassFile.FieldType.int, 4, ⟨"PatternTrierLaw", "word", "(LPatternTrier;II[J)I"⟩), [(0, 9, 12, 19), (0, 9, 16, 13)])
  | 11 => ((1, 12, method_14_code, 4, some ClassFile.FieldType.int, 3, ⟨"PatternTrierLaw", "count", "(LPatternTrier;I[J)I"⟩), [(0, 9, 12, 19)])
  | _ => ((9, 0, .empty, 0, none, 0, ⟨"", "", ""⟩), [])
def q_wok (w : qM × qHT) : Prop := w.1.1 = 1 ∧ w.1.2.1 = 12 ∧ RL = w.1.2.2.2.2.2.2.cls ∧ plainName w.1.2.2.2.2.2.2.cls = true ∧ (w.1.2.2.2.2.2.2.cls ≠ "java/lang/invoke/MethodHandle" ∧ w.1.2.2.2.2.2.2.cls ≠ "java/lang/invoke/VarHandle" ∧ (parseMethodDescriptor w.1.2.2.2.2.2.2.desc).map (fun d => d.parameters.length) = some w.1.2.2.2.2.2.1) ∧ Cond.codeWith w.1.2.2.2.2.2.2 w.1.2.2.1 w.1.2.2.2.1 w.1.2.2.2.2.1 w.2 ∈ GW ∧ Cond.initialized w.1.2.2.2.2.2.2.cls ∈ GW ∧ Cond.static w.1.2.2.2.2.2.2 ∈ GW
theorem q_wok0 : q_wok (q_wm 0) := ⟨rfl, rfl, rfl, by decide +kernel, ⟨by decide +kernel, by decide +kernel, by decide +kernel⟩, GW_tk 2 76 (by decide +kernel) rfl, GW_tk 1 0 (by decide +kernel) rfl, GW_tk 2 75 (by decide +kernel) rfl⟩
theorem q_wok1 : q_wok (q_wm 1) := ⟨rfl, rfl, rfl, by decide +kernel, ⟨by decide +kernel, by decide +kernel, by decide +kernel⟩, GW_tk 2 171 (by decide +kernel) rfl, GW_tk 1 0 (by decide +kernel) rfl, GW_tk 2 170 (by decide +kernel) rfl⟩
theorem q_wok2 : q_wok (q_wm 2) := ⟨rfl, rfl, rfl, by decide +kernel, ⟨by decide +kernel, by decide +kernel, by decide +kernel⟩, GW_tk 2 199 (by decide +kernel) rfl, GW_tk 1 0 (by decide +kernel) rfl, GW_tk 2 198 (by decide +kernel) rfl⟩
theorem q_wok3 : q_wok (q_wm 3) := ⟨rfl, rfl, rfl, by decide +kernel, ⟨by decide +kernel, by decide +kernel, by decide +kernel⟩, GW_tk 4 20 (by decide +kernel) rfl, GW_tk 1 0 (by decide +kernel) rfl, GW_tk 4 19 (by decide +kernel) rfl⟩
theorem q_wok4 : q_wok (q_wm 4) := ⟨rfl, rfl, rfl, by decide +kernel, ⟨by decide +kernel, by decide +kernel, by decide +kernel⟩, GW_tk 4 43 (by decide +kernel) rfl, GW_tk 1 0 (by decide +kernel) rfl, GW_tk 4 42 (by decide +kernel) rfl⟩
theorem q_wok5 : q_wok (q_wm 5) := ⟨rfl, rfl, rfl, by decide +kernel, ⟨by decide +kernel, by decide +kernel, by decide +kernel⟩, GW_tk 6 41 (by decide +kernel) rfl, GW_tk 1 0 (by decide +kernel) rfl, GW_tk 6 40 (by decide +kernel) rfl⟩
theorem q_wok6 : q_wok (q_wm 6) := ⟨rfl, rfl, rfl, by decide +kernel, ⟨by decide +kernel, by decide +kernel, by decide +kernel⟩, GW_tk 6 53 (by decide +kernel) rfl, GW_tk 1 0 (by decide +kernel) rfl, GW_tk 6 52 (by decide +kernel) rfl⟩
theorem q_wok7 : q_wok (q_wm 7) := ⟨rfl, rfl, rfl, by decide +kernel, ⟨by decide +kernel, by decide +kernel, by decide +kernel⟩, GW_tk 6 81 (by decide +kernel) rfl, GW_tk 1 0 (by decide +kernel) rfl, GW_tk 6 80 (by decide +kernel) rfl⟩
theorem q_wok8 : q_wok (q_wm 8) := ⟨rfl, rfl, rfl, by decide +kernel, ⟨by decide +kernel, by decide +kernel, by decide +kernel⟩, GW_tk 6 94 (by decide +kernel) rfl, GW_tk 1 0 (by decide +kernel) rfl, GW_tk 6 93 (by decide +kernel) rfl⟩
theorem q_wok9 : q_wok (q_wm 9) := ⟨rfl, rfl, rfl, by decide +kernel, ⟨by decide +kernel, by decide +kernel, by decide +kernel⟩, GW_tk 6 141 (by decide +kernel) rfl, GW_tk 1 0 (by decide +kernel) rfl, GW_tk 6 140 (by decide +kernel) rfl⟩
theorem q_wok10 : q_wok (q_wm 10) := ⟨rfl, rfl, rfl, by decide +kernel, ⟨by decide +kernel, by decide +kernel, by decide +kernel⟩, GW_tk 6 171 (by decide +kernel) rfl, GW_tk 1 0 (by decide +kernel) rfl, GW_tk 6 170 (by decide +kernel) rfl⟩
theorem q_wok11 : q_wok (q_wm 11) := ⟨rfl, rfl, rfl, by decide +kernel, ⟨by decide +kernel, by decide +kernel, by decide +kernel⟩, GW_tk 6 180 (by decide +kernel) rfl, GW_tk 1 0 (by decide +kernel) rfl, GW_tk 6 179 (by decide +kernel) rfl⟩
def q_wl (i : Nat) : Option Nat := match i with
  | 67 => some 0
  | 77 => some 1
  | 81 => some 2
  | 84 => some 3
  | 87 => some 4
  | 91 => some 5
  | 95 => some 6
  | 98 => some 7
  | 101 => some 8
  | 104 => some 9
  | 108 => some 10
  | 111 => some 11
  | _ => none
theorem q_wl_ok {i k : Nat} (h : q_wl i = some k) : q_wok (q_wm k) ∧ Cond.methodLink RL i (q_wm k).1.2.2.2.2.2.2 ∈ GW := by
  unfold q_wl at h
  split at h
  · cases h; exact ⟨q_wok0, GW_tk 2 74 (by decide +kernel) rfl⟩
  · cases h; exact ⟨q_wok1, GW_tk 2 169 (by decide +kernel) rfl⟩
  · cases h; exact ⟨q_wok2, GW_tk 2 197 (by decide +kernel) rfl⟩
  · cases h; exact ⟨q_wok3, GW_tk 4 18 (by decide +kernel) rfl⟩
  · cases h; exact ⟨q_wok4, GW_tk 4 41 (by decide +kernel) rfl⟩
  · cases h; exact ⟨q_wok5, GW_tk 6 39 (by decide +kernel) rfl⟩
  · cases h; exact ⟨q_wok6, GW_tk 6 51 (by decide +kernel) rfl⟩
  · cases h; exact ⟨q_wok7, GW_tk 6 79 (by decide +kernel) rfl⟩
  · cases h; exact ⟨q_wok8, GW_tk 6 92 (by decide +kernel) rfl⟩
  · cases h; exact ⟨q_wok9, GW_tk 6 139 (by decide +kernel) rfl⟩
  · cases h; exact ⟨q_wok10, GW_tk 6 169 (by decide +kernel) rfl⟩
  · cases h; exact ⟨q_wok11, GW_tk 6 178 (by decide +kernel) rfl⟩
  · cases h
def q_EX : List String := ["java/lang/ClassCastException", "java/lang/IllegalArgumentException", "java/lang/IllegalStateException", "java/lang/IndexOutOfBoundsException", "java/lang/UnsupportedOperationException", "java/util/NoSuchElementException"]
def q_ct (i : Nat) : Option String := match i with
  | 13 => some "java/lang/IndexOutOfBoundsException"
  | 19 => some "java/lang/IllegalArgumentException"
  | 24 => some "java/lang/UnsupportedOperationException"
  | 33 => some "java/util/NoSuchElementException"
  | 48 => some "java/lang/IllegalStateException"
  | 54 => some "java/lang/ClassCastException"
  | _ => none
theorem q_ct_ok {i : Nat} {E : String} (h : q_ct i = some E) : i ≠ 0 ∧ E ∈ q_EX ∧ Cond.classLink RL i E ∈ GW := by
  unfold q_ct at h
  split at h
  · cases h; exact ⟨by decide, by decide +kernel, GW_tk 2 77 (by decide +kernel) rfl⟩
  · cases h; exact ⟨by decide, by decide +kernel, GW_tk 2 172 (by decide +kernel) rfl⟩
  · cases h; exact ⟨by decide, by decide +kernel, GW_tk 2 200 (by decide +kernel) rfl⟩
  · cases h; exact ⟨by decide, by decide +kernel, GW_tk 4 44 (by decide +kernel) rfl⟩
  · cases h; exact ⟨by decide, by decide +kernel, GW_tk 6 95 (by decide +kernel) rfl⟩
  · cases h; exact ⟨by decide, by decide +kernel, GW_tk 6 142 (by decide +kernel) rfl⟩
  · cases h
theorem q_EX_cast : ∀ E ∈ q_EX, Cond.castable E E ∈ tables_1 := by
  intro E hE
  simp only [q_EX, List.mem_cons, List.not_mem_nil, or_false] at hE
  rcases hE with rfl | rfl | rfl | rfl | rfl | rfl
  · exact q_tb_in 6 (List.mem_of_getElem? (i := 154) (by decide +kernel))
  · exact q_tb_in 2 (List.mem_of_getElem? (i := 179) (by decide +kernel))
  · exact q_tb_in 6 (List.mem_of_getElem? (i := 121) (by decide +kernel))
  · exact q_tb_in 2 (List.mem_of_getElem? (i := 88) (by decide +kernel))
  · exact q_tb_in 3 (List.mem_of_getElem? (i := 132) (by decide +kernel))
  · exact q_tb_in 4 (List.mem_of_getElem? (i := 55) (by decide +kernel))
