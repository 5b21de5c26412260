/-! what holds at the law's entry (written by wip/whole/gen_entry.py out of tables_1 and narrow_1) -/
def q_nar : Nat → Cond := fun k => match k with
  | 1 => narrow_1_1
  | 2 => narrow_1_2
  | 3 => narrow_1_3
  | _ => narrow_1_4
theorem q_nar_at {args : Array Value} {s : State} (hgv : (Jvm.Cond.and given_1 narrow_1).before args s = true) (k i : Nat) {w : Cond} (h : (flatC (q_nar k))[i]? = some w) : w.before args s = true := by
  have h1 : narrow_1.before args s = true := by
    rw [Cond.before_and, Bool.and_eq_true] at hgv
    exact hgv.2
  unfold narrow_1 at h1
  rw [Cond.before_and, Cond.before_and, Cond.before_and, Bool.and_eq_true, Bool.and_eq_true, Bool.and_eq_true] at h1
  have h2 : (q_nar k).before args s = true := by
    unfold q_nar
    split
    · exact h1.1.1
    · exact h1.1.2
    · exact h1.2.1
    · exact h1.2.2
  exact flat_of_before _ h2 w (List.mem_of_getElem? h)
theorem q_tb_at {args : Array Value} {s : State} (hts : ∀ w ∈ lw_tbl, w.before args s = true) (k i : Nat) {w : Cond} (h : (q_tb k)[i]? = some w) : w.before args s = true := hts w (List.mem_append_right _ (q_tb_in k (List.mem_of_getElem? h)))
def q_STRp : List (Nat × Nat × Nat × Nat) := [(2, 131, 1, 369), (2, 186, 1, 399), (2, 213, 2, 40), (3, 139, 2, 61), (3, 151, 2, 89), (4, 29, 2, 121), (4, 30, 2, 145), (4, 49, 2, 175), (4, 62, 2, 203), (4, 69, 2, 234), (6, 46, 3, 4), (6, 50, 3, 38), (6, 61, 3, 76), (6, 86, 3, 129), (6, 105, 3, 173), (6, 128, 3, 221), (6, 147, 3, 271), (6, 161, 3, 312), (6, 176, 3, 364), (6, 189, 4, 15)]
set_option maxRecDepth 100000 in
theorem q_STR_ok : (q_STR.zip q_STRp).all (fun e => decide ((q_tb e.2.1)[e.2.2.1]? = some (Cond.stringRef RX10 e.1.1 e.1.2)) && decide ((flatC (q_nar e.2.2.2.1))[e.2.2.2.2]? = some (Cond.exactly (.string RX10 e.1.1) "java/lang/String"))) = true := by decide +kernel
def q_NWp : List (Nat × Nat) := [(3, 34), (3, 41), (3, 59), (3, 77), (3, 78), (3, 81), (3, 168), (5, 190), (5, 219), (5, 227), (5, 228), (6, 1), (6, 8), (6, 31), (6, 70), (6, 91), (3, 75)]
set_option maxRecDepth 100000 in
theorem q_NW_ok : (q_NW.zip q_NWp).all (fun e => decide ((q_tb e.2.1)[e.2.2]? = some e.1)) = true := by decide +kernel
def q_NCp : List (String × String × Nat × Nat) := [("java/lang/ClassCastException", "java/lang/IllegalArgumentException", 1, 288), ("java/lang/ClassCastException", "java/lang/IllegalStateException", 1, 348), ("java/lang/ClassCastException", "java/lang/IndexOutOfBoundsException", 1, 268), ("java/lang/ClassCastException", "java/lang/UnsupportedOperationException", 1, 308), ("java/lang/ClassCastException", "java/util/NoSuchElementException", 1, 328), ("java/lang/IllegalArgumentException", "java/lang/ClassCastException", 1, 362), ("java/lang/IllegalArgumentException", "java/lang/IllegalStateException", 1, 342), ("java/lang/IllegalArgumentException", "java/lang/IndexOutOfBoundsException", 1, 262), ("java/lang/IllegalArgumentException", "java/lang/UnsupportedOperationException", 1, 302), ("java/lang/IllegalArgumentException", "java/util/NoSuchElementException", 1, 322), ("java/lang/IllegalStateException", "java/lang/ClassCastException", 1, 368), ("java/lang/IllegalStateException", "java/lang/IllegalArgumentException", 1, 287), ("java/lang/IllegalStateException", "java/lang/IndexOutOfBoundsException", 1, 267), ("java/lang/IllegalStateException", "java/lang/UnsupportedOperationException", 1, 307), ("java/lang/IllegalStateException", "java/util/NoSuchElementException", 1, 327), ("java/lang/IndexOutOfBoundsException", "java/lang/ClassCastException", 1, 361), ("java/lang/IndexOutOfBoundsException", "java/lang/IllegalArgumentException", 1, 281), ("java/lang/IndexOutOfBoundsException", "java/lang/IllegalStateException", 1, 341), ("java/lang/IndexOutOfBoundsException", "java/lang/UnsupportedOperationException", 1, 301), ("java/lang/IndexOutOfBoundsException", "java/util/NoSuchElementException", 1, 321), ("java/lang/UnsupportedOperationException", "java/lang/ClassCastException", 1, 363), ("java/lang/UnsupportedOperationException", "java/lang/IllegalArgumentException", 1, 282), ("java/lang/UnsupportedOperationException", "java/lang/IllegalStateException", 1, 343), ("java/lang/UnsupportedOperationException", "java/lang/IndexOutOfBoundsException", 1, 263), ("java/lang/UnsupportedOperationException", "java/util/NoSuchElementException", 1, 323), ("java/util/NoSuchElementException", "java/lang/ClassCastException", 1, 364), ("java/util/NoSuchElementException", "java/lang/IllegalArgumentException", 1, 283), ("java/util/NoSuchElementException", "java/lang/IllegalStateException", 1, 344), ("java/util/NoSuchElementException", "java/lang/IndexOutOfBoundsException", 1, 264), ("java/util/NoSuchElementException", "java/lang/UnsupportedOperationException", 1, 303)]
set_option maxRecDepth 100000 in
theorem q_NC_ok : q_NCp.all (fun e => decide ((flatC (q_nar e.2.2.1))[e.2.2.2]? = some (Cond.not (.castable e.1 e.2.1)))) = true := by decide +kernel
set_option maxRecDepth 100000 in
theorem q_NC_all : q_EX.all (fun E => q_EX.all (fun E' => decide (E = E') || q_NCp.any (fun e => decide (e.1 = E) && decide (e.2.1 = E')))) = true := by decide +kernel
abbrev q_clT : Term := .static RX10 "CLASSES" "[I"
set_option maxRecDepth 100000 in
theorem q_cl_ok : (List.range 32).all (fun j => decide ((flatC (q_nar 1))[7 + j]? = some (Cond.eq (.elem q_clT (.int (Int32.ofNat j))) (.int (q_CLS j))))) = true := by decide +kernel
theorem q_zip_at {α β : Type} {P : α × β → Bool} : ∀ {L : List α} {M : List β}, (L.zip M).all P = true → L.length ≤ M.length → ∀ x ∈ L, ∃ y, P (x, y) = true := by
  intro L
  induction L with
  | nil => intro M _ _ x hx; cases hx
  | cons a t ih =>
    intro M hP hl x hx
    cases M with
    | nil => exact absurd hl (by simp)
    | cons b r =>
      simp only [List.zip_cons_cons, List.all_cons, Bool.and_eq_true] at hP
      rcases List.mem_cons.mp hx with rfl | q
      · exact ⟨b, hP.1⟩
      · exact ih hP.2 (by simpa using hl) x q
theorem q_i32 {n : Nat} (h : n < 2147483648) (h2 : n.toInt32 = (32 : Int32)) : n = 32 := by
  have h3 : (Int32.ofNat n).toInt = (32 : Int32).toInt := congrArg Int32.toInt h2
  rw [Int32.toInt_ofNat_of_lt (by simpa using h)] at h3
  have h4 : (32 : Int32).toInt = 32 := by decide
  omega
theorem q_lenlt {t : Term} {args : Array Value} {s : State} {a : Addr} {cell : Cell} {v : Value} (ht : t.eval args s none [] s = some (.ref a)) (harr : s.arrayAt? a = some cell) (hl : (Term.length t).eval args s none [] s = some v) : cell.slots.size < 2147483648 := by
  by_cases q : cell.slots.size < 2147483648
  · exact q
  · simp [Term.eval, ht, harr, q] at hl
theorem q_clAt {args : Array Value} {s : State} (hgv : (Jvm.Cond.and given_1 narrow_1).before args s = true) : ∃ a0, q_clT.eval args s none [] s = some (.ref a0) ∧ a0 < s.heap.size ∧ va_X a0 32 q_CLS s s.heap := by
  have hlen := Cond.eq_int (q_nar_at hgv 1 6 (w := Cond.eq (.length q_clT) (.int 32)) (by decide +kernel)) (show (Term.int 32).eval args s none [] s = some (.int 32) from rfl)
  have hlen0 := hlen
  obtain ⟨a, cell, ht, harr, hv⟩ := Term.length_spec hlen
  obtain ⟨hc, hkn, -, -⟩ := State.arrayAt?_spec harr
  have hsz : cell.slots.size < 2147483648 := q_lenlt ht harr hlen0
  have h32 : cell.slots.size = 32 := q_i32 hsz (Value.int.inj hv).symm
  obtain ⟨hof, -⟩ := Cond.arrayOf_spec (q_nar_at hgv 1 5 (w := Cond.arrayOf q_clT .int) (by decide +kernel)) ht hc
  refine ⟨a, ht, (Array.getElem?_eq_some_iff.mp hc).1, cell, hc, hof, hkn, h32, fun j hj => ?_⟩
  have h9 := of_decide_eq_true (List.all_eq_true.mp q_cl_ok j (List.mem_range.mpr hj))
  have he := Cond.eq_int (q_nar_at hgv 1 _ h9) (show (Term.int (q_CLS j)).eval args s none [] s = some (.int (q_CLS j)) from rfl)
  obtain ⟨a2, j2, cell2, g1, g2, g3, -, g5⟩ := Term.elem_spec he
  cases Option.some.inj (ht.symm.trans g1)
  cases Option.some.inj (harr.symm.trans g3)
  cases Option.some.inj ((show (Term.int (Int32.ofNat j)).eval args s none [] s = some (.int (Int32.ofNat j)) from rfl).symm.trans g2)
  have e2 : (Int32.ofNat j).toNatClampNeg = j := by
    have : (Int32.ofNat j).toInt = (j : Int) := Int32.toInt_ofNat_of_lt (by omega)
    show (Int32.ofNat j).toInt.toNat = j
    rw [this]; rfl
  rw [e2] at g5
  exact g5
set_option maxHeartbeats 1000000 in
theorem q_start {s : State} {b L : Nat} {xs : Nat → Int32} (hts : ∀ w ∈ lw_tbl, w.before #[Value.ref b] s = true) (hX : va_X b L xs s s.heap) (hgv : (Jvm.Cond.and given_1 narrow_1).before #[Value.ref b] s = true) :
    ∃ (D : va_G) (dA : Nat → ClassId) (a0 : Nat), qAmb D dA ((a0, b), (L, xs)) s.heap s ∧ q_NC s ∧ a0 < s.heap.size := by
  have hG : ∀ w ∈ GW, w.before #[Value.ref b] s = true := fun w hw => hts w (List.mem_filter.mp hw).1
  obtain ⟨a0, ha0, hlt0, hX0⟩ := q_clAt hgv
  have hk : ∀ k : Nat, ∃ q : ClassId × (Nat → Nat), k < 12 → u_Kn s (qC k) (qF k) (qN k) q.1 q.2 := fun k => by
    by_cases h : k < 12
    · obtain ⟨c9, i9, h9⟩ := u_known (n := qN k) hG (q_in k h) (hG _ (q_inst k h).1)
      exact ⟨(c9, i9), fun _ => h9⟩
    · exact ⟨((0 : Nat), fun _ => 0), fun q => absurd q h⟩
  have ap : ∀ (ty : FieldType), (∀ C, ty ≠ .object C) → (Cond.arrayClass ty).before #[Value.ref b] s = true → ∃ cA : ClassId, ArrOfT s cA ty ∧ va_RA s cA ty := fun ty hty h => by
    obtain ⟨cA, kA, comp, f1, f2, f3⟩ := Cond.arrayClass_spec h
    refine ⟨cA, fun N z => ⟨(fun k h => by cases h), kA, f2, comp, f3⟩, ?_⟩
    unfold va_RA
    split
    · rename_i C; exact absurd rfl (hty C)
    · exact f1
  have ao : ∀ (C : String), (Cond.arrayOver (.object C)).before #[Value.ref b] s = true → ∃ cA : ClassId, ArrOfT s cA (.object C) ∧ va_RA s cA (.object C) := fun C h => by
    obtain ⟨comp, cA, kA, g1, g2, g3, g4, g5⟩ := Cond.arrayOver_spec h
    exact ⟨cA, fun N z => ⟨(fun k h => by cases h), kA, g3, comp, g4⟩, ⟨kA, comp, g3, g4, g1, g5⟩⟩
  have o1 : (Cond.arrayOver (.object RX1)).before #[Value.ref b] s = true := q_tb_at hts 1 104 (by decide +kernel)
  have o5 : (Cond.arrayOver (.object RX5)).before #[Value.ref b] s = true := q_tb_at hts 1 102 (by decide +kernel)
  obtain ⟨d0, h0⟩ := ap .byte (fun C q => by cases q) (q_tb_at hts 1 120 (by decide +kernel))
  obtain ⟨d1, h1⟩ := ap .int (fun C q => by cases q) (q_tb_at hts 1 61 (by decide +kernel))
  obtain ⟨d2, h2⟩ := ap .long (fun C q => by cases q) (q_tb_at hts 7 188 (by decide +kernel))
  obtain ⟨d3, h3⟩ := ap .boolean (fun C q => by cases q) (q_tb_at hts 7 187 (by decide +kernel))
  obtain ⟨d4, h4⟩ := ao RX1 o1
  obtain ⟨d5, h5⟩ := ao RX5 o5
  have hnot : ∀ a : Nat, a < s.heap.size → ¬ (fun q => s.heap.size ≤ q) a := fun a ha q => absurd (show s.heap.size ≤ a from q) (Nat.not_le.mpr ha)
  refine ⟨(fun k => (hk k).choose.1, fun k => (hk k).choose.2), fun t => match t with | 0 => d0 | 1 => d1 | 2 => d2 | 3 => d3 | 4 => d4 | _ => d5, a0, ⟨⟨?_, ?_⟩, ?_, ⟨va_AO.of o1, va_AO.of o5⟩, ?_, ?_, ?_, ?_, hX0, hX⟩, ?_, hlt0⟩
  · intro k q hq
    by_cases h : k < 12
    · cases Option.some.inj ((q_cl k h).symm.trans hq)
      exact (hk k).choose_spec h
    · rw [List.getElem?_eq_none (by show 12 ≤ k; omega)] at hq; cases hq
  · intro k q hq
    match k, hq with
    | 0, hq => cases hq; exact h0
    | 1, hq => cases hq; exact h1
    | 2, hq => cases hq; exact h2
    | 3, hq => cases hq; exact h3
    | 4, hq => cases hq; exact h4
    | 5, hq => cases hq; exact h5
    | k + 6, hq => simp at hq
  · intro w hw
    have on : ∀ w : Cond, q_kin w = true → w.onTables = true := fun w h => by cases w <;> first | rfl | cases h
    refine va_Nw.of (on w (q_ANW_kin w hw)) (A := #[Value.ref b]) ?_
    rcases List.mem_append.mp hw with q | q
    · obtain ⟨y, hy⟩ := q_zip_at q_NW_ok (by decide) w q
      exact q_tb_at hts _ _ (of_decide_eq_true hy)
    · exact hts w (List.mem_append_right _ (List.mem_filter.mp q).1)
  · intro e he
    obtain ⟨y, hy⟩ := q_zip_at q_STR_ok (by decide) e he
    simp only [Bool.and_eq_true, decide_eq_true_eq] at hy
    obtain ⟨a9, -, -, -, q1, -⟩ := Cond.exactly_spec (q_nar_at hgv _ _ hy.2)
    exact ⟨a9, vk_R.of (A := #[Value.ref b]) (q_tb_at hts _ _ hy.1) q1⟩
  · exact vx_Zqof (q_tb_at hts 2 113 (by decide +kernel)) (q_tb_at hts 1 15 (by decide +kernel)) (q_nar_at hgv 1 2 (by decide +kernel)) hnot
  · exact vx_Zqof (q_tb_at hts 2 115 (by decide +kernel)) (q_tb_at hts 1 15 (by decide +kernel)) (q_nar_at hgv 1 3 (by decide +kernel)) hnot
  · exact va_Zof (q_tb_at hts 3 76 (by decide +kernel)) (q_tb_at hts 1 1 (by decide +kernel)) ha0 hnot
  · intro E hE E' hE' hn
    have h9 := List.all_eq_true.mp (List.all_eq_true.mp q_NC_all E hE) E' hE'
    simp only [Bool.or_eq_true, decide_eq_true_eq] at h9
    rcases h9 with q | q
    · exact absurd q hn
    · obtain ⟨e, he, q2⟩ := List.any_eq_true.mp q
      simp only [Bool.and_eq_true, decide_eq_true_eq] at q2
      obtain ⟨rfl, rfl⟩ := q2
      exact va_Nc.of (q_nar_at hgv _ _ (of_decide_eq_true (List.all_eq_true.mp q_NC_ok e he)))
/-- the pure heap at the law's entry -/
def q_h0 (L : Nat) (xs : Nat → Int32) : qH := (fun i => q_spe ((0, 0), (L, xs)) i, 0, 0)
/-- WHAT IS LEFT: the pure law answers 1 for every script, in its room -/
def q_whole : Prop := ∀ (L : Nat) (xs : Nat → Int32), L ≤ 3072 → ∃ (N d F : Nat) (h' : qH), d ≤ 200 ∧ q_lw qML N d F 0 [(0, .ref 1000000001)] [] (q_h0 L xs) = some h' ∧ h'.2.1 ≤ 601024 ∧ h'.2.2 ≤ 7293034
theorem q_whole_start (hw : q_whole) {p : Program} {e : Env} {s : State} {m : MethodId} {below : List Frame} {meth : Method} {c : Code} (l : Launch) (hl : l.stackTraces = false) {b L : Nat} {xs : Nat → Int32} (hL : L ≤ 3072) (C0 : lw_At p s m meth c b L xs) : W p l e room_1 s m #[Value.ref b] below meth c s.heap [] 0 0 (lw_Z below #[Value.ref b] s) (entryFrame m ([Value.ref b] : List Value).toArray 8) := by
  obtain ⟨hx, hb, hr, hml, hown, hts, hX, hbl, hlocks, hgv⟩ := C0
  obtain ⟨D, dA, a0, hA, hNC, hlt⟩ := q_start hts hX hgv
  obtain ⟨N, d, F, h', hd, hrun, hc, hs⟩ := hw L xs hL
  have hG : ∀ w ∈ GW, w.before #[Value.ref b] s = true := fun w hw => hts w (List.mem_filter.mp hw).1
  have hl0 := lv_entry ([Value.ref b]) (n := 8) (Nat.le_of_ble_eq_true rfl)
  rw [lg_entry_eq]
  generalize (lg_sl ([Value.ref b]) ++ List.replicate (8 - (lg_sl ([Value.ref b])).length) Slot.unset).toArray = ls at hl0 ⊢
  have hq : qad s.heap.size ((a0, b), (L, xs)) 1000000001 = b := rfl
  have hl1 : lv_has ls 8 (qm (qad s.heap.size ((a0, b), (L, xs))) [(0, .ref 1000000001)]) := hl0
  have hW : qW D dA ((a0, b), (L, xs)) s.heap (q_h0 L xs) s.heap := by
    refine ⟨⟨hlt, hbl⟩, rfl, fun _ _ => rfl, fun i e9 hi => ⟨fun q => ?_, fun q => hi⟩⟩
    have : q_spe ((0, 0), (L, xs)) i = some e9 := hi
    unfold q_spe at this
    rw [if_neg (by omega), if_neg (by omega)] at this
    cases this
  exact q_lw_W (M := qML) (sC := ((a0, b), (L, xs))) hl hd rfl rfl rfl hx hb hml hG hown hA hNC (fun pc H ls h9 => lw_ret hx hb hr hlocks h9) F 0 _ [] (q_h0 L xs) h' hrun hc hs s.heap [] 0 0 ls hl1 hW (fun z hz => by cases hz) rfl rfl
