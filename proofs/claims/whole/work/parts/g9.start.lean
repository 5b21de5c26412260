/-! THE LAW'S START: both objects are made, and their memories belong together -/
def cSp : List (Nat × Int × Int) := [(0, 8, 84), (0, 9, 86), (0, 10, 108), (0, 11, 110), (0, 12, -1), (1, 10, -1), (1, 11, -1), (1, 12, -1), (11, 10, -1), (11, 11, -1), (11, 12, -1), (20, 10, -1), (20, 11, -1), (20, 12, -1), (29, 10, -1), (29, 11, -1), (29, 12, -1), (38, 10, -1), (38, 11, -1), (38, 12, -1), (47, 10, -1), (47, 11, -1), (47, 12, -1), (56, 10, -1), (56, 11, -1), (56, 12, -1), (65, 10, -1), (65, 11, -1), (65, 12, -1), (90, 8, 1), (100, 1, 84), (100, 3, -1), (101, 1, 1), (102, 3, 1), (102, 4, 84), (103, 0, 104), (105, 0, 106)]
/-- the class's memory at the start -/
def C0v : qB := fun b x => if x = -1 then (if b < 112 then shp b else if b = 1000000000 then 421 else 0) else if b = 2000000000 then (if x = 0 then 160 else if x = 1 then 2733406 else 0) else if b = 1000000000 then (q_CLS x.toNat).toInt else if b = 83 then (if 0 ≤ x ∧ x < 20 then -1 else 0) else match cSp.find? (fun e => e.1 == b && e.2.1 == x) with
  | some e => e.2.2
  | none => 0
/-- the reference's memory at the start -/
def B0v : qB := u2 (fun _ _ => 0) 3 0 (-1)
theorem C0_m (b : Nat) : C0v b (-1) = (if b < 112 then shp b else if b = 1000000000 then 421 else 0) := if_pos rfl
theorem C0_z {b : Nat} {x : Int} (hx : x ≠ -1) (h1 : b ≠ 2000000000) (h2 : b ≠ 1000000000) (h3 : b ≠ 83) (h : cSp.all (fun e => !(e.1 == b && e.2.1 == x)) = true) : C0v b x = 0 := by
  show (if x = -1 then _ else if b = 2000000000 then _ else if b = 1000000000 then _ else if b = 83 then _ else _) = _
  rw [if_neg hx, if_neg h1, if_neg h2, if_neg h3]
  have : cSp.find? (fun e => e.1 == b && e.2.1 == x) = none := by
    rw [List.find?_eq_none]
    intro e he
    have := List.all_eq_true.mp h e he
    intro q
    rw [q] at this
    exact absurd this (by decide)
  rw [this]
theorem C0_bank {b : Nat} {x : Int} (hx : x ≠ -1) (h1 : b ≠ 2000000000) (h2 : b ≠ 1000000000) (h3 : b ≠ 83) (h : cSp.all (fun e => !(e.1 == b)) = true) : C0v b x = 0 := by
  refine C0_z hx h1 h2 h3 ?_
  rw [List.all_eq_true] at h ⊢
  intro e he
  have := h e he
  simp only [Bool.not_eq_true', Bool.and_eq_false_iff] at this ⊢
  exact Or.inl this
theorem C0_idx {b : Nat} {x : Int} (hx : x ≠ -1) (h1 : b ≠ 2000000000) (h2 : b ≠ 1000000000) (h3 : b ≠ 83) (h : cSp.all (fun e => !(e.2.1 == x)) = true) : C0v b x = 0 := by
  refine C0_z hx h1 h2 h3 ?_
  rw [List.all_eq_true] at h ⊢
  intro e he
  have := h e he
  simp only [Bool.not_eq_true', Bool.and_eq_false_iff] at this ⊢
  exact Or.inr this
theorem dget_out {v0 : Value} {j m : Nat} : ∀ {u : List (Nat × Value)}, u.all (fun e => decide (e.1 < m)) = true → m ≤ j → dget v0 u j = v0
  | [], _, _ => rfl
  | e :: t, h, hj => by
    rw [List.all_cons, Bool.and_eq_true] at h
    have := of_decide_eq_true h.1
    show (if j = e.1 then e.2 else dget v0 t j) = v0
    rw [if_neg (by omega)]
    exact dget_out h.2 hj
/-- a row of data is what the memory says -/
def dok (i : Nat) (c : dE) : Bool := match c with
  | .inl (k, vs) => decide (shp i = (k : Int) + 1) && decide (k < 12) && decide (vs = (List.range (qN k)).map (ofv k i C0v))
  | .inr (t, n, v0, u) => decide (shp i = 100 + (t : Int) + 10 * (n : Int)) && (decide (i = 83) || decide (i = 10) || decide (i = 74) || (decide (t < 2) && decide (v0 = .int 0) && decide (u = []) && cSp.all (fun e => !(e.1 == i))))
set_option maxRecDepth 100000 in
theorem dok_A : (List.range 112).all (fun i => match dA[i]? with
  | some c => dok i c
  | none => false) = true := by decide +kernel
set_option maxRecDepth 100000 in
theorem d83 : dA[83]? = some (.inr (1, 20, .int 0, (List.range 20).reverse.map (fun j => (j, .int (-1))))) := by rfl
set_option maxRecDepth 100000 in
theorem d10 : dA[10]? = some (.inr (5, 8, .null, [(7, .ref 65), (6, .ref 56), (5, .ref 47), (4, .ref 38), (3, .ref 29), (2, .ref 20), (1, .ref 11), (0, .ref 1)])) := by rfl
set_option maxRecDepth 100000 in
theorem d74 : dA[74]? = some (.inr (4, 4, .null, [(3, .ref 81), (2, .ref 79), (1, .ref 77), (0, .ref 75)])) := by rfl
theorem f83 : dget (.int 0) ((List.range 20).reverse.map (fun j => (j, Value.int (-1)))) = fun x => cav 1 x (C0v 83 (x : Int)) := by
  funext x
  have e : C0v 83 (x : Int) = if 0 ≤ (x : Int) ∧ (x : Int) < 20 then -1 else 0 := by
    show (if (x : Int) = -1 then _ else if (83 : Nat) = 2000000000 then _ else if (83 : Nat) = 1000000000 then _ else if (83 : Nat) = 83 then _ else _) = _
    rw [if_neg (by omega), if_neg (by decide), if_neg (by decide), if_pos rfl]
  rw [e]
  by_cases q : x < 20
  · rw [if_pos ⟨by omega, by omega⟩]
    have : ∀ x : Fin 20, dget (.int 0) ((List.range 20).reverse.map (fun j => (j, Value.int (-1)))) x.1 = cav 1 x.1 (-1) := by decide +kernel
    exact this ⟨x, q⟩
  · rw [if_neg (by omega)]
    exact dget_out (m := 20) (by decide +kernel) (by omega)
theorem f10 {z : Nat → Int} : dget .null [(7, Value.ref 65), (6, .ref 56), (5, .ref 47), (4, .ref 38), (3, .ref 29), (2, .ref 20), (1, .ref 11), (0, .ref 1)] = fun x => cav 5 x (z x) := by
  funext x
  have e : cav 5 x (z x) = cav 5 x 0 := rfl
  rw [e]
  by_cases q : x < 8
  · have : ∀ x : Fin 8, dget .null [(7, Value.ref 65), (6, .ref 56), (5, .ref 47), (4, .ref 38), (3, .ref 29), (2, .ref 20), (1, .ref 11), (0, .ref 1)] x.1 = cav 5 x.1 0 := by decide +kernel
    exact this ⟨x, q⟩
  · rw [dget_out (m := 8) (by decide +kernel) (by omega)]
    unfold cav
    rw [if_neg (by decide), if_neg (by decide), if_pos rfl, if_neg q]
theorem f74 {z : Nat → Int} : dget .null [(3, Value.ref 81), (2, .ref 79), (1, .ref 77), (0, .ref 75)] = fun x => cav 4 x (z x) := by
  funext x
  have e : cav 4 x (z x) = cav 4 x 0 := rfl
  rw [e]
  by_cases q : x < 4
  · have : ∀ x : Fin 4, dget .null [(3, Value.ref 81), (2, .ref 79), (1, .ref 77), (0, .ref 75)] x.1 = cav 4 x.1 0 := by decide +kernel
    exact this ⟨x, q⟩
  · rw [dget_out (m := 4) (by decide +kernel) (by omega)]
    unfold cav
    rw [if_neg (by decide), if_pos rfl, if_neg q]
/-- the class's cells -/
theorem cellC {h1 : qH} {i : Nat} (hi : i < 112) : ∃ c, dA[i]? = some c ∧ some (dcell c) = (hC h1 C0v).1 i := by
  have h := List.all_eq_true.mp dok_A i (List.mem_range.mpr hi)
  have hm : C0v i (-1) = shp i := by rw [C0_m, if_pos hi]
  split at h
  · rename_i c hc
    refine ⟨c, hc, ?_⟩
    unfold dok at h
    split at h
    · rename_i k vs
      rw [Bool.and_eq_true, Bool.and_eq_true] at h
      have e1 := of_decide_eq_true h.1.1
      have e2 := of_decide_eq_true h.1.2
      have e3 := of_decide_eq_true h.2
      rw [hC_o (k := k) ⟨by rw [hm]; exact e1, e2⟩, ← e3]
      rfl
    · rename_i t n v0 u
      rw [Bool.and_eq_true] at h
      have e1 := of_decide_eq_true h.1
      by_cases q83 : i = 83
      · subst q83
        rw [d83] at hc
        cases hc
        rw [hC_a (t := 1) (n := 20) ⟨by rw [hm]; exact e1, by decide, by decide⟩]
        show some (Sum.inl (1, 20, dget (.int 0) _)) = _
        rw [f83]
        rfl
      · by_cases q10 : i = 10
        · subst q10
          rw [d10] at hc
          cases hc
          rw [hC_a (t := 5) (n := 8) ⟨by rw [hm]; exact e1, by decide, by decide⟩]
          show some (Sum.inl (5, 8, dget .null _)) = _
          rw [f10 (z := fun x => C0v 10 (x : Int))]
          rfl
        · by_cases q74 : i = 74
          · subst q74
            rw [d74] at hc
            cases hc
            rw [hC_a (t := 4) (n := 4) ⟨by rw [hm]; exact e1, by decide, by decide⟩]
            show some (Sum.inl (4, 4, dget .null _)) = _
            rw [f74 (z := fun x => C0v 74 (x : Int))]
            rfl
          · have h2 := h.2
            rw [decide_eq_false q83, decide_eq_false q10, decide_eq_false q74, Bool.false_or, Bool.false_or, Bool.false_or, Bool.and_eq_true, Bool.and_eq_true, Bool.and_eq_true] at h2
            have t2 := of_decide_eq_true h2.1.1.1
            have v2 := of_decide_eq_true h2.1.1.2
            have u2' := of_decide_eq_true h2.1.2
            subst v2 u2'
            rw [hC_a (t := t) (n := (n : Int)) ⟨by rw [hm]; exact e1, by omega, by omega⟩]
            have ef : (fun x : Nat => cav t x (C0v i (x : Int))) = dget (.int 0) [] := by
              funext x
              rw [C0_bank (by omega) (by omega) (by omega) q83 h2.2]
              unfold cav
              rw [if_neg (by omega), if_neg (by omega), if_neg (by omega)]
              rfl
            rw [ef]
            rfl
  · cases h
