/-! THE CONSTRUCTORS: what they make (the rows of data are what d_run comes to) -/
def dEq : dE → dE → Bool
  | .inl a, .inl b => decide (a = b)
  | .inr a, .inr b => decide (a = b)
  | _, _ => false
theorem dEq_ok : ∀ {a b : dE}, dEq a b = true → a = b
  | .inl a, .inl b, h => by rw [of_decide_eq_true h]
  | .inr a, .inr b, h => by rw [of_decide_eq_true h]
  | .inl a, .inr b, h => by cases h
  | .inr a, .inl b, h => by cases h
def dEqL : List dE → List dE → Bool
  | [], [] => true
  | a :: s, b :: t => dEq a b && dEqL s t
  | _, _ => false
theorem dEqL_ok : ∀ {s t : List dE}, dEqL s t = true → s = t
  | [], [], _ => rfl
  | a :: s, b :: t, h => by
    have h : (dEq a b && dEqL s t) = true := h
    rw [Bool.and_eq_true] at h
    rw [dEq_ok h.1, dEqL_ok h.2]
  | [], b :: t, h => by cases h
  | a :: s, [], h => by cases h
def dIs (o : Option dH) (l : List dE) (n : Nat) : Bool := match o with
  | some D => dEqL D.1 l && decide (D.2 = n)
  | none => false
theorem dIs_ok {o : Option dH} {l : List dE} {n : Nat} (h : dIs o l n = true) : o = some (l, n) := by
  unfold dIs at h
  split at h
  · rename_i D
    rw [Bool.and_eq_true] at h
    obtain ⟨x, y⟩ := D
    have e1 : x = l := dEqL_ok h.1
    have e2 : y = n := of_decide_eq_true h.2
    rw [e1, e2]
  · cases h
def dA : List dE := [
  .inl (10, [.ref 10, .ref 74, .ref 83, .ref 90, .ref 100, .ref 101, .ref 102, .ref 88, .ref 84, .ref 86, .ref 108, .ref 110, .int (-1)]),
  .inl (5, [.ref 2, .ref 3, .ref 4, .ref 5, .ref 6, .ref 7, .ref 8, .int (0), .int (0), .int (0), .int (-1), .int (-1), .int (-1)]),
  .inr (1, 608, .int (0), []),
  .inr (1, 608, .int (0), []),
  .inr (1, 608, .int (0), []),
  .inr (1, 608, .int (0), []),
  .inr (1, 608, .int (0), []),
  .inr (1, 608, .int (0), []),
  .inl (7, [.ref 9, .int (0)]),
  .inr (1, 1600, .int (0), []),
  .inr (5, 8, .null, [(7, .ref 65), (6, .ref 56), (5, .ref 47), (4, .ref 38), (3, .ref 29), (2, .ref 20), (1, .ref 11), (0, .ref 1)]),
  .inl (5, [.ref 12, .ref 13, .ref 14, .ref 15, .ref 16, .ref 17, .ref 18, .int (0), .int (0), .int (0), .int (-1), .int (-1), .int (-1)]),
  .inr (1, 608, .int (0), []),
  .inr (1, 608, .int (0), []),
  .inr (1, 608, .int (0), []),
  .inr (1, 608, .int (0), []),
  .inr (1, 608, .int (0), []),
  .inr (1, 608, .int (0), []),
  .inl (7, [.ref 19, .int (0)]),
  .inr (1, 1600, .int (0), []),
  .inl (5, [.ref 21, .ref 22, .ref 23, .ref 24, .ref 25, .ref 26, .ref 27, .int (0), .int (0), .int (0), .int (-1), .int (-1), .int (-1)]),
  .inr (1, 608, .int (0), []),
  .inr (1, 608, .int (0), []),
  .inr (1, 608, .int (0), []),
  .inr (1, 608, .int (0), []),
  .inr (1, 608, .int (0), []),
  .inr (1, 608, .int (0), []),
  .inl (7, [.ref 28, .int (0)]),
  .inr (1, 1600, .int (0), []),
  .inl (5, [.ref 30, .ref 31, .ref 32, .ref 33, .ref 34, .ref 35, .ref 36, .int (0), .int (0), .int (0), .int (-1), .int (-1), .int (-1)]),
  .inr (1, 608, .int (0), []),
  .inr (1, 608, .int (0), []),
  .inr (1, 608, .int (0), []),
  .inr (1, 608, .int (0), []),
  .inr (1, 608, .int (0), []),
  .inr (1, 608, .int (0), []),
  .inl (7, [.ref 37, .int (0)]),
  .inr (1, 1600, .int (0), []),
  .inl (5, [.ref 39, .ref 40, .ref 41, .ref 42, .ref 43, .ref 44, .ref 45, .int (0), .int (0), .int (0), .int (-1), .int (-1), .int (-1)]),
  .inr (1, 608, .int (0), []),
  .inr (1, 608, .int (0), []),
  .inr (1, 608, .int (0), []),
  .inr (1, 608, .int (0), []),
  .inr (1, 608, .int (0), []),
  .inr (1, 608, .int (0), []),
  .inl (7, [.ref 46, .int (0)]),
  .inr (1, 1600, .int (0), []),
  .inl (5, [.ref 48, .ref 49, .ref 50, .ref 51, .ref 52, .ref 53, .ref 54, .int (0), .int (0), .int (0), .int (-1), .int (-1), .int (-1)]),
  .inr (1, 608, .int (0), []),
  .inr (1, 608, .int (0), []),
  .inr (1, 608, .int (0), []),
  .inr (1, 608, .int (0), []),
  .inr (1, 608, .int (0), []),
  .inr (1, 608, .int (0), []),
  .inl (7, [.ref 55, .int (0)]),
  .inr (1, 1600, .int (0), []),
  .inl (5, [.ref 57, .ref 58, .ref 59, .ref 60, .ref 61, .ref 62, .ref 63, .int (0), .int (0), .int (0), .int (-1), .int (-1), .int (-1)]),
  .inr (1, 608, .int (0), []),
  .inr (1, 608, .int (0), []),
  .inr (1, 608, .int (0), []),
  .inr (1, 608, .int (0), []),
  .inr (1, 608, .int (0), []),
  .inr (1, 608, .int (0), []),
  .inl (7, [.ref 64, .int (0)]),
  .inr (1, 1600, .int (0), []),
  .inl (5, [.ref 66, .ref 67, .ref 68, .ref 69, .ref 70, .ref 71, .ref 72, .int (0), .int (0), .int (0), .int (-1), .int (-1), .int (-1)]),
  .inr (1, 608, .int (0), []),
  .inr (1, 608, .int (0), []),
  .inr (1, 608, .int (0), []),
  .inr (1, 608, .int (0), []),
  .inr (1, 608, .int (0), []),
  .inr (1, 608, .int (0), []),
  .inl (7, [.ref 73, .int (0)]),
  .inr (1, 1600, .int (0), []),
  .inr (4, 4, .null, [(3, .ref 81), (2, .ref 79), (1, .ref 77), (0, .ref 75)]),
  .inl (1, [.ref 76, .int (0)]),
  .inr (0, 1000, .int (0), []),
  .inl (1, [.ref 78, .int (0)]),
  .inr (0, 1000, .int (0), []),
  .inl (1, [.ref 80, .int (0)]),
  .inr (0, 1000, .int (0), []),
  .inl (1, [.ref 82, .int (0)]),
  .inr (0, 1000, .int (0), []),
  .inr (1, 20, .int (0), [(19, .int (-1)), (18, .int (-1)), (17, .int (-1)), (16, .int (-1)), (15, .int (-1)), (14, .int (-1)), (13, .int (-1)), (12, .int (-1)), (11, .int (-1)), (10, .int (-1)), (9, .int (-1)), (8, .int (-1)), (7, .int (-1)), (6, .int (-1)), (5, .int (-1)), (4, .int (-1)), (3, .int (-1)), (2, .int (-1)), (1, .int (-1)), (0, .int (-1))]),
  .inl (1, [.ref 85, .int (0)]),
  .inr (0, 1200, .int (0), []),
  .inl (1, [.ref 87, .int (0)]),
  .inr (0, 1200, .int (0), []),
  .inl (1, [.ref 89, .int (0)]),
  .inr (0, 1000, .int (0), []),
  .inl (8, [.ref 91, .ref 92, .ref 93, .ref 94, .ref 95, .ref 96, .ref 97, .ref 98, .int (1)]),
  .inr (1, 408, .int (0), []),
  .inr (1, 408, .int (0), []),
  .inr (1, 408, .int (0), []),
  .inr (1, 408, .int (0), []),
  .inr (1, 408, .int (0), []),
  .inr (1, 408, .int (0), []),
  .inr (1, 408, .int (0), []),
  .inl (7, [.ref 99, .int (0)]),
  .inr (1, 1600, .int (0), []),
  .inl (6, [.ref 90, .ref 84, .int (0), .int (-1), .int (0), .int (0), .int (0), .int (0)]),
  .inl (0, [.ref 90, .ref 1]),
  .inl (9, [.ref 103, .ref 105, .ref 107, .ref 1, .ref 84, .int (0), .int (0), .int (0), .int (0)]),
  .inl (4, [.ref 104, .int (0)]),
  .inr (1, 2048, .int (0), []),
  .inl (2, [.ref 106]),
  .inr (1, 1024, .int (0), []),
  .inr (1, 20, .int (0), []),
  .inl (3, [.ref 109, .int (0)]),
  .inr (1, 602, .int (0), []),
  .inl (3, [.ref 111, .int (0)]),
  .inr (1, 602, .int (0), [])]
def dB : List dE := [
  .inl (11, [.int (0), .ref 113, .int (0), .int (-1), .ref 114, .ref 115, .ref 116, .ref 117, .ref 118, .ref 119, .ref 120, .ref 121, .ref 122, .ref 123, .int (0), .ref 124, .int (0), .ref 125, .ref 126, .ref 127, .ref 128, .ref 129, .ref 130, .ref 131, .ref 132, .ref 133, .int (0), .ref 134, .int (0), .int (0), .int (0), .ref 135, .int (0), .int (0), .int (0), .int (0), .ref 136, .ref 137, .ref 138, .ref 139, .ref 140, .int (0), .ref 141, .ref 142, .ref 143, .ref 144, .int (0), .int (0), .int (0), .ref 145, .ref 146, .ref 147, .ref 148, .ref 149, .ref 150, .int (0), .int (0), .int (0), .int (0), .int (0), .ref 151, .ref 152, .ref 153, .ref 154, .int (0), .ref 155, .int (0), .ref 156, .int (0), .int (0), .ref 157, .int (0), .int (0), .ref 158, .int (0), .int (0)]),
  .inr (1, 1200, .int (0), []),
  .inr (1, 1600, .int (0), []),
  .inr (1, 4000, .int (0), []),
  .inr (1, 8, .int (0), []),
  .inr (1, 8, .int (0), []),
  .inr (1, 8, .int (0), []),
  .inr (1, 4, .int (0), []),
  .inr (1, 1001, .int (0), []),
  .inr (1, 1001, .int (0), []),
  .inr (1, 1001, .int (0), []),
  .inr (1, 1001, .int (0), []),
  .inr (1, 1200, .int (0), []),
  .inr (1, 3000, .int (0), []),
  .inr (1, 3000, .int (0), []),
  .inr (1, 3000, .int (0), []),
  .inr (1, 3000, .int (0), []),
  .inr (1, 3000, .int (0), []),
  .inr (1, 3000, .int (0), []),
  .inr (1, 3000, .int (0), []),
  .inr (1, 3000, .int (0), []),
  .inr (3, 3000, .int (0), []),
  .inr (2, 1024, .long (0), []),
  .inr (1, 200, .int (0), []),
  .inr (1, 12, .int (0), []),
  .inr (1, 12, .int (0), []),
  .inr (1, 12, .int (0), []),
  .inr (1, 12, .int (0), []),
  .inr (1, 12, .int (0), []),
  .inr (1, 6000, .int (0), []),
  .inr (1, 6000, .int (0), []),
  .inr (1, 6000, .int (0), []),
  .inr (1, 6000, .int (0), []),
  .inr (1, 20, .int (0), []),
  .inr (1, 20, .int (0), []),
  .inr (1, 800, .int (0), []),
  .inr (1, 2000, .int (0), []),
  .inr (1, 800, .int (0), []),
  .inr (1, 2001, .int (0), []),
  .inr (1, 6000, .int (0), []),
  .inr (1, 6000, .int (0), []),
  .inr (1, 6000, .int (0), []),
  .inr (1, 6000, .int (0), []),
  .inr (1, 2500000, .int (0), []),
  .inr (2, 80000, .long (0), []),
  .inr (1, 20, .int (0), []),
  .inr (1, 1000, .int (0), [])]
def dC : dE := .inr (2, 1, .long (0), [])
def dN1 : dH := ([.inl (10, (List.range (qN 10)).map (fun j => defaultValue (qTy 10 j)))], qN 10)
set_option maxRecDepth 100000 in
theorem dr1 : d_run 5000 30 (q_ms 0) 0 (lv_args 0 [.ref 0]) [] dN1 = some (dA, 58352) := dIs_ok (by decide +kernel)
def dN2 : dH := (dA ++ [.inl (11, (List.range (qN 11)).map (fun j => defaultValue (qTy 11 j)))], 58352 + qN 11)
set_option maxRecDepth 100000 in
theorem dr2 : d_run 5000 30 (q_ms 157) 0 (lv_args 0 [.ref 112]) [] dN2 = some (dA ++ dB, 2733405) := dIs_ok (by decide +kernel)
