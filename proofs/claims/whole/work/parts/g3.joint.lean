/-! THE LAW'S HEAP: it holds both memories -/
section JOINT
variable {h : qH} {C C' B B' : qB}
theorem hC_self {h1 : qH} (e : h = hC h1 C) : h = hC h C := by
  refine Prod.ext (funext fun i => ?_) ?_
  · show h.1 i = (if C i (-1) = 0 then h.1 i else if C i (-1) < 100 then _ else _)
    by_cases q : C i (-1) = 0
    · rw [if_pos q]
    · rw [if_neg q]
      have e1 : h.1 i = (hC h1 C).1 i := by rw [← e]
      rw [e1]
      show (if C i (-1) = 0 then h1.1 i else if C i (-1) < 100 then _ else _) = _
      rw [if_neg q]
  · have : h.2 = (hC h1 C).2 := by rw [← e]
    rw [this]
    rfl
theorem hC_0 {h1 : qH} {i : Nat} (q : C i (-1) = 0) : (hC h1 C).1 i = h1.1 i := by
  show (if C i (-1) = 0 then h1.1 i else if C i (-1) < 100 then _ else _) = _
  rw [if_pos q]
theorem hC_n {h1 h2 : qH} {i : Nat} (q : ¬ C i (-1) = 0) : (hC h1 C).1 i = (hC h2 C).1 i := by
  show (if C i (-1) = 0 then h1.1 i else if C i (-1) < 100 then _ else _) = (if C i (-1) = 0 then h2.1 i else if C i (-1) < 100 then _ else _)
  rw [if_neg q, if_neg q]
theorem hM_out {h0 : qH} {i : Nat} (q : i < 112 ∨ 158 < i) : (hM 112 h0 B).1 i = h0.1 i := by
  show (if i = 112 then _ else if 112 < i then (match mAr[i - 112 - 1]?, mLn[i - 112 - 1]? with
    | some j, some n => some (.inl (mt j, n, fun x => mcv (mt j) (B j x)))
    | _, _ => h0.1 i) else h0.1 i) = _
  rw [if_neg (by omega)]
  by_cases z : 112 < i
  · rw [if_pos z]
    have : mAr[i - 112 - 1]? = none := List.getElem?_eq_none (by show 46 ≤ _; omega)
    rw [this]
  · rw [if_neg z]
theorem hM_in {h0 h1 : qH} {i : Nat} (q : 112 ≤ i ∧ i ≤ 158) : (hM 112 h0 B).1 i = (hM 112 h1 B).1 i := by
  show (if i = 112 then _ else if 112 < i then (match mAr[i - 112 - 1]?, mLn[i - 112 - 1]? with
    | some j, some n => some (.inl (mt j, n, fun x => mcv (mt j) (B j x)))
    | _, _ => h0.1 i) else h0.1 i) = (if i = 112 then _ else if 112 < i then (match mAr[i - 112 - 1]?, mLn[i - 112 - 1]? with
    | some j, some n => some (.inl (mt j, n, fun x => mcv (mt j) (B j x)))
    | _, _ => h1.1 i) else h1.1 i)
  by_cases e : i = 112
  · rw [if_pos e, if_pos e]
  · rw [if_neg e, if_neg e, if_pos (by omega), if_pos (by omega)]
    have h1 : i - 112 - 1 < mAr.length := by show _ < 46; omega
    have h2 : i - 112 - 1 < mLn.length := by show _ < 46; omega
    rw [List.getElem?_eq_getElem h1, List.getElem?_eq_getElem h2]
/-- one of the heaps holds the reference -/
theorem hM_self (hx : ∀ i, 112 ≤ i ∧ i ≤ 158 → h.1 i = (hM 112 h B).1 i) : h = hM 112 h B := by
  refine Prod.ext (funext fun i => ?_) rfl
  by_cases q : 112 ≤ i ∧ i ≤ 158
  · exact hx i q
  · rw [hM_out (by omega)]
/-- the numbers that are not the class's -/
def Zr (C : qB) : Prop := ∀ i : Nat, (112 ≤ i ∧ i < 160) ∨ i = 1000000001 → C i (-1) = 0
theorem DI.zr {c0 s0 : Int} (h : DI c0 s0 C) : Zr C := h.2.1.2.2
/-- the class has gone on -/
theorem jn_class (hm : h = hM 112 h B) (hz : Zr C') : hC h C' = hC (hC h C') C' ∧ hC h C' = hM 112 (hC h C') B ∧ (hC h C').1 159 = h.1 159 ∧ (hC h C').1 1000000001 = h.1 1000000001 := by
  refine ⟨hC_self rfl, hM_self (fun i q => ?_), hC_0 (hz _ (by omega)), hC_0 (hz _ (by omega))⟩
  rw [hC_0 (hz i (by omega)), hM_in (h1 := h) q, ← hm]
/-- the reference has gone on -/
theorem jn_model (hc : h = hC h C) (hz : Zr C) : hM 112 h B' = hC (hM 112 h B') C ∧ hM 112 h B' = hM 112 (hM 112 h B') B' ∧ (hM 112 h B').1 159 = h.1 159 ∧ (hM 112 h B').1 1000000001 = h.1 1000000001 := by
  refine ⟨Prod.ext (funext fun i => ?_) ?_, hM_self (fun i q => hM_in q), hM_out (by omega), hM_out (by omega)⟩
  · by_cases q : C i (-1) = 0
    · rw [hC_0 q]
    · have hi : i < 112 ∨ 158 < i := by
        by_cases z : i < 112 ∨ 158 < i
        · exact z
        · exact absurd (hz i (by omega)) q
      rw [hC_n (h2 := h) q, ← hc, hM_out hi]
  · have : h.2 = (hC h C).2 := by rw [← hc]
    show h.2 = _
    rw [this]
    rfl
/-- the row of answers is written -/
theorem jn_out {e : qE} (hc : h = hC h C) (hm : h = hM 112 h B) (hz : Zr C) : qup h 159 e = hC (qup h 159 e) C ∧ qup h 159 e = hM 112 (qup h 159 e) B ∧ (qup h 159 e).1 159 = some e ∧ (qup h 159 e).1 1000000001 = h.1 1000000001 := by
  have o : ∀ i, i ≠ 159 → (qup h 159 e).1 i = h.1 i := fun i q => if_neg q
  refine ⟨Prod.ext (funext fun i => ?_) ?_, hM_self (fun i q => ?_), (by show (if (159 : Nat) = 159 then some e else h.1 159) = some e; exact if_pos rfl), o _ (by decide)⟩
  · by_cases q : C i (-1) = 0
    · rw [hC_0 q]
    · have hi : i ≠ 159 := fun z => q (hz i (by omega))
      rw [hC_n (h2 := h) q, ← hc, o i hi]
  · have : h.2 = (hC h C).2 := by rw [← hc]
    show h.2 = _
    rw [this]
    rfl
  · rw [o i (by omega), hM_in (h1 := h) q, ← hm]
/-- between two calls of the law -/
def JI (L : Nat) (xs : Nat → Int32) (c0 s0 : Int) (h : qH) (C B : qB) : Prop := h = hC h C ∧ h = hM 112 h B ∧ CIv c0 s0 C B ∧ OI B ∧ h.1 1000000001 = some (.inl (1, L, fun j => .int (xs j))) ∧ ∃ f, h.1 159 = some (.inl (2, 1, f))
theorem JI.o0 {L : Nat} {xs : Nat → Int32} {c0 s0 : Int} (j : JI L xs c0 s0 h C B) : ∃ vs, h.1 0 = some (.inr (10, vs)) := by
  have hs : isO C 10 0 := SH.o j.2.2.1.1 ⟨by decide +kernel, by decide, by decide⟩
  have := hC_o (h1 := h) hs
  rw [← j.1] at this
  exact ⟨_, this⟩
theorem JI.m {L : Nat} {xs : Nat → Int32} {c0 s0 : Int} (j : JI L xs c0 s0 h C B) : ∃ vs, h.1 112 = some (.inr (11, vs)) := by
  have := hM_o (m := 112) (h0 := h) (B := B)
  rw [← j.2.1] at this
  exact ⟨_, this⟩
end JOINT
