/-! THE CLASS: its smallest methods, by their ends -/
theorem d_pos {d n : Nat} (h : n + 1 ≤ d) : ∃ e, d = e + 1 ∧ n ≤ e := ⟨d - 1, by omega, by omega⟩
/-- a row of bytes that is not longer than it may be -/
def bOK (B : qB) (a : Nat) : Prop := 0 ≤ B a 1 ∧ B a 1 ≤ bl a
/-- a byte of a row, -1 outside of it -/
def byA (B : qB) (a : Nat) (p : Int) : Int := if 0 ≤ p ∧ p < B a 1 then iAnd (B (a + 1) p) 255 else -1
def adB (B : qB) (a : Nat) (v : Int) : qB := if B a 1 < bl a then u2 (u2 B (a + 1) (B a 1) (nB (nB v))) a 1 (B a 1 + 1) else B
def cuB (B : qB) (a : Nat) (n : Int) : qB := if 0 ≤ n ∧ n ≤ B a 1 then u2 B a 1 n else B
def isRE (s : Int) : Bool := decide (s = -1 ∨ s = 124 ∨ s = 41)
def clsO (s : Int) : Int := if s = 100 ∨ s = 68 then 0 else if s = 119 ∨ s = 87 then 8 else if s = 115 ∨ s = 83 then 16 else -1
def brC (B : qB) (x : Int) : qB := if B 100 3 = -1 then u2 B 100 3 x else B
theorem bl_R {a : Nat} (h : ob 1 a) : R32 (bl a) := by rcases bl_or h with q | q <;> rw [q] <;> exact ⟨by decide, by decide⟩
theorem bOK.R {B : qB} {a : Nat} (h : ob 1 a) (hb : bOK B a) : R32 (B a 1) := by rcases bl_or h with q | q <;> exact ⟨by have := hb.1; omega, by have := hb.2; omega⟩
section CY0
variable {h1 : qH} {d : Nat} {B : qB} {Q : qO → qB → Prop}
theorem Y_P_cell {a : Nat} {n i : Int} (hd : 1 ≤ d) (hS : SH B) (hA : isA B 1 a n) (hn : n ≤ 67108864) (p1 : 0 ≤ i) (p2 : i < n) (w : Q (.inl (some (iv (B a i)))) B) : qY h1 d n_P_cell 0 [some (.ref a), some (iv i)] [] B Q := by
  obtain ⟨d, rfl, he⟩ := d_pos hd
  exact c_P_cell_0_ok he hS hA hn ⟨⟨by omega, by omega⟩, fun q => absurd q (by omega), fun _ => ⟨⟨by omega, by omega⟩, fun q => absurd q (by omega), fun _ => ⟨p1, p2, w⟩⟩⟩
theorem Y_P_put {a : Nat} {n i v : Int} (hd : 1 ≤ d) (hS : SH B) (hA : isA B 1 a n) (hn : n ≤ 67108864) (ha : a < 1000000000) (p1 : 0 ≤ i) (p2 : i < n) (w : Q (.inl none) (u2 B a i v)) : qY h1 d n_P_put 0 [some (.ref a), some (iv i), some (iv v)] [] B Q := by
  obtain ⟨d, rfl, he⟩ := d_pos hd
  exact c_P_put_0_ok he hS hA hn ha ⟨⟨by omega, by omega⟩, fun q => absurd q (by omega), fun _ => ⟨⟨by omega, by omega⟩, fun q => absurd q (by omega), fun _ => ⟨p1, p2, w⟩⟩⟩
theorem isLt_t {x : Int} (h : 97 ≤ x ∧ x ≤ 122 ∨ 65 ≤ x ∧ x ≤ 90) : isLt x = true := by
  unfold isLt
  simp only [Bool.or_eq_true, Bool.and_eq_true, decide_eq_true_eq]
  exact h
theorem isLt_f {x : Int} (h : ¬ (97 ≤ x ∧ x ≤ 122 ∨ 65 ≤ x ∧ x ≤ 90)) : isLt x = false := by
  rw [← Bool.not_eq_true]
  unfold isLt
  simp only [Bool.or_eq_true, Bool.and_eq_true, decide_eq_true_eq]
  exact h
theorem isDg_t {x : Int} (h : 48 ≤ x ∧ x ≤ 57) : isDg x = true := by
  unfold isDg
  simp only [Bool.and_eq_true, decide_eq_true_eq]
  exact h
theorem isDg_f {x : Int} (h : ¬ (48 ≤ x ∧ x ≤ 57)) : isDg x = false := by
  rw [← Bool.not_eq_true]
  unfold isDg
  simp only [Bool.and_eq_true, decide_eq_true_eq]
  exact h
theorem Y_P_isLetter {x : Int} (hd : 1 ≤ d) (hS : SH B) (p : R32 x) (w : Q (.inl (some (iv (bi (isLt x))))) B) : qY h1 d n_P_isLetter 0 [some (iv x)] [] B Q := by
  obtain ⟨d, rfl, he⟩ := d_pos hd
  have t : (97 ≤ x ∧ x ≤ 122 ∨ 65 ≤ x ∧ x ≤ 90) → Q (.inl (some (iv 1))) B := fun h => by rw [isLt_t h] at w; exact w
  have f : ¬ (97 ≤ x ∧ x ≤ 122 ∨ 65 ≤ x ∧ x ≤ 90) → Q (.inl (some (iv 0))) B := fun h => by rw [isLt_f h] at w; exact w
  exact c_P_isLetter_0_ok he hS ⟨p, fun q => ⟨p, fun q => f (by omega), fun q => ⟨fun q => f (by omega), fun q => t (by omega)⟩⟩, fun q => ⟨fun q => t (by omega), fun q => ⟨p, fun q => f (by omega), fun q => ⟨fun q => f (by omega), fun q => t (by omega)⟩⟩⟩⟩
theorem Y_P_isDigit_IZ {x : Int} (hd : 1 ≤ d) (hS : SH B) (p : R32 x) (w : Q (.inl (some (iv (bi (isDg x))))) B) : qY h1 d n_P_isDigit_IZ 0 [some (iv x)] [] B Q := by
  obtain ⟨d, rfl, he⟩ := d_pos hd
  have t : (48 ≤ x ∧ x ≤ 57) → Q (.inl (some (iv 1))) B := fun h => by rw [isDg_t h] at w; exact w
  have f : ¬ (48 ≤ x ∧ x ≤ 57) → Q (.inl (some (iv 0))) B := fun h => by rw [isDg_f h] at w; exact w
  exact c_P_isDigit_IZ_0_ok he hS ⟨p, fun q => f (by omega), fun q => ⟨fun q => f (by omega), fun q => t (by omega)⟩⟩
theorem Y_P_isDigit_IZn {x : Int} (hd : 1 ≤ d) (hS : SH B) (p : R32 x) (w : Q (.inl (some (iv (bi (isDg x))))) B) : qY h1 d n_P_isDigit_IZn 0 [some (iv x)] [] B Q := by
  obtain ⟨d, rfl, he⟩ := d_pos hd
  have t : (48 ≤ x ∧ x ≤ 57) → Q (.inl (some (iv 1))) B := fun h => by rw [isDg_t h] at w; exact w
  have f : ¬ (48 ≤ x ∧ x ≤ 57) → Q (.inl (some (iv 0))) B := fun h => by rw [isDg_f h] at w; exact w
  exact c_P_isDigit_IZn_0_ok he hS ⟨p, fun q => f (by omega), fun q => ⟨fun q => f (by omega), fun q => t (by omega)⟩⟩
theorem Y_By_size {a : Nat} (hd : 1 ≤ d) (hS : SH B) (ha : ob 1 a) (w : Q (.inl (some (iv (B a 1)))) B) : qY h1 d n_By_size 0 [some (.ref a)] [] B Q := by
  obtain ⟨d, rfl, he⟩ := d_pos hd
  exact c_By_size_0_ok he hS ha w
theorem Y_By_room {a : Nat} (hd : 1 ≤ d) (hS : SH B) (ha : ob 1 a) (w : Q (.inl (some (iv (bl a - B a 1)))) B) : qY h1 d n_By_room 0 [some (.ref a)] [] B Q := by
  obtain ⟨d, rfl, he⟩ := d_pos hd
  exact c_By_room_0_ok he hS ha w
theorem Y_By_at {a : Nat} {x : Int} (hd : 1 ≤ d) (hS : SH B) (ha : ob 1 a) (hb : bOK B a) (p : R32 x) (w : Q (.inl (some (iv (byA B a x)))) B) : qY h1 d n_By_at 0 [some (.ref a), some (iv x)] [] B Q := by
  obtain ⟨d, rfl, he⟩ := d_pos hd
  have t : 0 ≤ x ∧ x < B a 1 → Q (.inl (some (iv (iAnd (B (a + 1) x) 255)))) B := fun h => by unfold byA at w; rw [if_pos h] at w; exact w
  have f : ¬ (0 ≤ x ∧ x < B a 1) → Q (.inl (some (iv (-1)))) B := fun h => by unfold byA at w; rw [if_neg h] at w; exact w
  exact c_By_at_0_ok he hS ha ⟨p, fun q => f (by omega), fun q => ⟨hb.R ha, fun q => f (by omega), fun q2 => ⟨bl_R ha, fun q => absurd hb.2 (by omega), fun q3 => ⟨q, q3, t ⟨q, q2⟩⟩⟩⟩⟩
theorem Y_By_add {a : Nat} {x : Int} (hd : 1 ≤ d) (hS : SH B) (ha : ob 1 a) (hb : bOK B a) (w : Q (.inl (some (iv (bi (decide (B a 1 < bl a)))))) (adB B a x)) : qY h1 d n_By_add 0 [some (.ref a), some (iv x)] [] B Q := by
  obtain ⟨d, rfl, he⟩ := d_pos hd
  refine c_By_add_0_ok he hS ha ⟨hb.R ha, fun q => absurd hb.1 (by omega), fun _ => ⟨bl_R ha, fun q => ⟨hb.1, q, ?_⟩, fun q => ?_⟩⟩
  · unfold adB at w
    rw [if_pos q, decide_eq_true q] at w
    rw [u2_bank (show a ≠ a + 1 by omega)]
    exact w
  · unfold adB at w
    rw [if_neg (by omega), decide_eq_false (by omega)] at w
    exact w
theorem S_By_add {a : Nat} {x : Int} (hS : SH B) (ha : ob 1 a) (hb : bOK B a) : SH (adB B a x) := by
  unfold adB
  split
  · exact SH_u2 (SH_u2 hS hb.1) (by decide)
  · exact hS
theorem Y_By_cut {a : Nat} {x : Int} (hd : 1 ≤ d) (hS : SH B) (ha : ob 1 a) (hb : bOK B a) (p : R32 x) (w : Q (.inl none) (cuB B a x)) : qY h1 d n_By_cut 0 [some (.ref a), some (iv x)] [] B Q := by
  obtain ⟨d, rfl, he⟩ := d_pos hd
  have t : 0 ≤ x ∧ x ≤ B a 1 → Q (.inl none) (u2 B a 1 x) := fun h => by unfold cuB at w; rw [if_pos h] at w; exact w
  have f : ¬ (0 ≤ x ∧ x ≤ B a 1) → Q (.inl none) B := fun h => by unfold cuB at w; rw [if_neg h] at w; exact w
  exact c_By_cut_0_ok he hS ha ⟨p, fun q => f (by omega), fun q => ⟨hb.R ha, fun q => f (by omega), fun q2 => t ⟨q, q2⟩⟩⟩
theorem S_By_cut {a : Nat} {x : Int} (hS : SH B) : SH (cuB B a x) := by
  unfold cuB
  split
  · exact SH_u2 hS (by decide)
  · exact hS
theorem Y_Re_isBroken (hd : 1 ≤ d) (hS : SH B) (p : R32 (B 100 3)) (w : Q (.inl (some (iv (bi (decide (¬ B 100 3 = -1)))))) B) : qY h1 d n_Re_isBroken 0 [some (.ref 100)] [] B Q := by
  obtain ⟨d, rfl, he⟩ := d_pos hd
  exact c_Re_isBroken_0_ok he hS ⟨p, fun q => by rw [decide_eq_false (by omega)] at w; exact w, fun q => by rw [decide_eq_true q] at w; exact w⟩
theorem Y_Re_isRowEnd {x : Int} (hd : 1 ≤ d) (hS : SH B) (p : R32 x) (w : Q (.inl (some (iv (bi (isRE x))))) B) : qY h1 d n_Re_isRowEnd 0 [some (iv x)] [] B Q := by
  obtain ⟨d, rfl, he⟩ := d_pos hd
  unfold isRE at w
  have t : (x = -1 ∨ x = 124 ∨ x = 41) → Q (.inl (some (iv 1))) B := fun h => by rw [decide_eq_true h] at w; exact w
  have f : ¬ (x = -1 ∨ x = 124 ∨ x = 41) → Q (.inl (some (iv 0))) B := fun h => by rw [decide_eq_false h] at w; exact w
  exact c_Re_isRowEnd_0_ok he hS ⟨p, fun q => t (by omega), fun q => ⟨fun q => t (by omega), fun q => ⟨fun q => f (by omega), fun q => t (by omega)⟩⟩⟩
theorem Y_Re_isQuantifier {x : Int} (hd : 1 ≤ d) (hS : SH B) (p : R32 x) (w : Q (.inl (some (iv (bi (isQt x))))) B) : qY h1 d n_Re_isQuantifier 0 [some (iv x)] [] B Q := by
  obtain ⟨d, rfl, he⟩ := d_pos hd
  have t : (x = 42 ∨ x = 43 ∨ x = 63 ∨ x = 123) → Q (.inl (some (iv 1))) B := fun h => by
    have : isQt x = true := by unfold isQt; rcases h with rfl | rfl | rfl | rfl <;> rfl
    rw [this] at w; exact w
  have f : ¬ (x = 42 ∨ x = 43 ∨ x = 63 ∨ x = 123) → Q (.inl (some (iv 0))) B := fun h => by
    have : isQt x = false := by unfold isQt; rw [decide_eq_false (by omega), decide_eq_false (by omega), decide_eq_false (by omega), decide_eq_false (by omega)]; rfl
    rw [this] at w; exact w
  exact c_Re_isQuantifier_0_ok he hS ⟨p, fun q => t (by omega), fun q => ⟨fun q => t (by omega), fun q => ⟨fun q => t (by omega), fun q => ⟨fun q => f (by omega), fun q => t (by omega)⟩⟩⟩⟩
theorem Y_Re_classOf {x : Int} (hd : 1 ≤ d) (hS : SH B) (p : R32 x) (w : Q (.inl (some (iv (clsO x)))) B) : qY h1 d n_Re_classOf 0 [some (iv x)] [] B Q := by
  obtain ⟨d, rfl, he⟩ := d_pos hd
  have g : ∀ z, clsO x = z → Q (.inl (some (iv z))) B := fun z h => by rw [h] at w; exact w
  unfold clsO at g
  refine c_Re_classOf_0_ok he hS ⟨p, fun q => g 0 ?_, fun q => g 16 ?_, fun q => g 8 ?_, fun q => g 0 ?_, fun q => g 16 ?_, fun q => g 8 ?_, fun q1 q2 q3 q4 q5 q6 => g (-1) ?_⟩
  · subst q; decide
  · subst q; decide
  · subst q; decide
  · subst q; decide
  · subst q; decide
  · subst q; decide
  · rw [if_neg (by omega), if_neg (by omega), if_neg (by omega)]
theorem Y_Re_breakAt {x : Int} (hd : 1 ≤ d) (hS : SH B) (p : R32 (B 100 3)) (w : Q (.inl none) (brC B x)) : qY h1 d n_Re_breakAt 0 [some (.ref 100), some (iv x)] [] B Q := by
  obtain ⟨d, rfl, he⟩ := d_pos hd
  unfold brC at w
  exact c_Re_breakAt_0_ok he hS ⟨p, fun q => by rw [if_neg q] at w; exact w, fun q => by rw [if_pos q] at w; exact w⟩
theorem S_Re_breakAt {x : Int} (hS : SH B) : SH (brC B x) := by
  unfold brC
  split
  · exact SH_u2 hS (by decide)
  · exact hS
theorem Y_Re_root (hd : 1 ≤ d) (hS : SH B) (w : Q (.inl (some (iv (B 100 4)))) B) : qY h1 d n_Re_root 0 [some (.ref 100)] [] B Q := by
  obtain ⟨d, rfl, he⟩ := d_pos hd
  exact c_Re_root_0_ok he hS w
theorem Y_Re_groups (hd : 1 ≤ d) (hS : SH B) (w : Q (.inl (some (iv (B 100 5)))) B) : qY h1 d n_Re_groups 0 [some (.ref 100)] [] B Q := by
  obtain ⟨d, rfl, he⟩ := d_pos hd
  exact c_Re_groups_0_ok he hS w
theorem Y_Tr_sets (hd : 1 ≤ d) (hS : SH B) (w : Q (.inl (some (.ref 98))) B) : qY h1 d n_Tr_sets 0 [some (.ref 90)] [] B Q := by
  obtain ⟨d, rfl, he⟩ := d_pos hd
  exact c_Tr_sets_0_ok he hS w
theorem Y_Se_clear {a : Nat} (hd : 1 ≤ d) (hS : SH B) (ha : ob 7 a) (w : Q (.inl none) (u2 B a 1 0)) : qY h1 d n_Se_clear 0 [some (.ref a)] [] B Q := by
  obtain ⟨d, rfl, he⟩ := d_pos hd
  exact c_Se_clear_0_ok he hS ha w
theorem Y_Pr_weight {a : Nat} (hd : 1 ≤ d) (hS : SH B) (ha : ob 5 a) (w : Q (.inl (some (iv (B a 10)))) B) : qY h1 d n_Pr_weight 0 [some (.ref a)] [] B Q := by
  obtain ⟨d, rfl, he⟩ := d_pos hd
  exact c_Pr_weight_0_ok he hS ha w
theorem Y_Pr_slots {a : Nat} (hd : 1 ≤ d) (hS : SH B) (ha : ob 5 a) (w : Q (.inl (some (iv (B a 8)))) B) : qY h1 d n_Pr_slots 0 [some (.ref a)] [] B Q := by
  obtain ⟨d, rfl, he⟩ := d_pos hd
  exact c_Pr_slots_0_ok he hS ha w
theorem Y_Pr_entry {a : Nat} (hd : 1 ≤ d) (hS : SH B) (ha : ob 5 a) (w : Q (.inl (some (iv (B a 9)))) B) : qY h1 d n_Pr_entry 0 [some (.ref a)] [] B Q := by
  obtain ⟨d, rfl, he⟩ := d_pos hd
  exact c_Pr_entry_0_ok he hS ha w
theorem Y_Pr_groups {a : Nat} (hd : 1 ≤ d) (hS : SH B) (ha : ob 5 a) (w : Q (.inl (some (iv (B a 11)))) B) : qY h1 d n_Pr_groups 0 [some (.ref a)] [] B Q := by
  obtain ⟨d, rfl, he⟩ := d_pos hd
  exact c_Pr_groups_0_ok he hS ha w
theorem Y_Pr_onlySet {a : Nat} (hd : 1 ≤ d) (hS : SH B) (ha : ob 5 a) (w : Q (.inl (some (iv (B a 12)))) B) : qY h1 d n_Pr_onlySet 0 [some (.ref a)] [] B Q := by
  obtain ⟨d, rfl, he⟩ := d_pos hd
  exact c_Pr_onlySet_0_ok he hS ha w
theorem Y_Pr_kindOf {a : Nat} {x : Int} (hd : 1 ≤ d) (hS : SH B) (ha : ob 5 a) (p1 : 0 ≤ x) (p2 : x < 608) (w : Q (.inl (some (iv (B (a + 1) x)))) B) : qY h1 d n_Pr_kindOf 0 [some (.ref a), some (iv x)] [] B Q := by
  obtain ⟨d, rfl, he⟩ := d_pos hd
  exact c_Pr_kindOf_0_ok he hS ha ⟨⟨by omega, by omega⟩, fun q => absurd q (by omega), fun _ => ⟨fun q => absurd q (by omega), fun _ => ⟨p1, p2, w⟩⟩⟩
theorem Y_Pr_valueOf {a : Nat} {x : Int} (hd : 1 ≤ d) (hS : SH B) (ha : ob 5 a) (p1 : 0 ≤ x) (p2 : x < 608) (w : Q (.inl (some (iv (B (a + 2) x)))) B) : qY h1 d n_Pr_valueOf 0 [some (.ref a), some (iv x)] [] B Q := by
  obtain ⟨d, rfl, he⟩ := d_pos hd
  exact c_Pr_valueOf_0_ok he hS ha ⟨⟨by omega, by omega⟩, fun q => absurd q (by omega), fun _ => ⟨fun q => absurd q (by omega), fun _ => ⟨p1, p2, w⟩⟩⟩
theorem Y_Pr_nextOf {a : Nat} {x : Int} (hd : 1 ≤ d) (hS : SH B) (ha : ob 5 a) (p1 : 0 ≤ x) (p2 : x < 608) (w : Q (.inl (some (iv (B (a + 3) x)))) B) : qY h1 d n_Pr_nextOf 0 [some (.ref a), some (iv x)] [] B Q := by
  obtain ⟨d, rfl, he⟩ := d_pos hd
  exact c_Pr_nextOf_0_ok he hS ha ⟨⟨by omega, by omega⟩, fun q => absurd q (by omega), fun _ => ⟨fun q => absurd q (by omega), fun _ => ⟨p1, p2, w⟩⟩⟩
theorem Y_Pr_otherOf {a : Nat} {x : Int} (hd : 1 ≤ d) (hS : SH B) (ha : ob 5 a) (p1 : 0 ≤ x) (p2 : x < 608) (w : Q (.inl (some (iv (B (a + 4) x)))) B) : qY h1 d n_Pr_otherOf 0 [some (.ref a), some (iv x)] [] B Q := by
  obtain ⟨d, rfl, he⟩ := d_pos hd
  exact c_Pr_otherOf_0_ok he hS ha ⟨⟨by omega, by omega⟩, fun q => absurd q (by omega), fun _ => ⟨fun q => absurd q (by omega), fun _ => ⟨p1, p2, w⟩⟩⟩
theorem Y_Pr_depthOf {a : Nat} {x : Int} (hd : 1 ≤ d) (hS : SH B) (ha : ob 5 a) (p1 : 0 ≤ x) (p2 : x < 608) (w : Q (.inl (some (iv (B (a + 5) x)))) B) : qY h1 d n_Pr_depthOf 0 [some (.ref a), some (iv x)] [] B Q := by
  obtain ⟨d, rfl, he⟩ := d_pos hd
  exact c_Pr_depthOf_0_ok he hS ha ⟨⟨by omega, by omega⟩, fun q => absurd q (by omega), fun _ => ⟨fun q => absurd q (by omega), fun _ => ⟨p1, p2, w⟩⟩⟩
theorem Y_Pr_slotOf {a : Nat} {x : Int} (hd : 1 ≤ d) (hS : SH B) (ha : ob 5 a) (p1 : 0 ≤ x) (p2 : x < 608) (w : Q (.inl (some (iv (B (a + 6) x)))) B) : qY h1 d n_Pr_slotOf 0 [some (.ref a), some (iv x)] [] B Q := by
  obtain ⟨d, rfl, he⟩ := d_pos hd
  exact c_Pr_slotOf_0_ok he hS ha ⟨⟨by omega, by omega⟩, fun q => absurd q (by omega), fun _ => ⟨fun q => absurd q (by omega), fun _ => ⟨p1, p2, w⟩⟩⟩
theorem Y_Pi_size (hd : 1 ≤ d) (hS : SH B) (w : Q (.inl (some (iv (B 103 1)))) B) : qY h1 d n_Pi_size 0 [some (.ref 103)] [] B Q := by
  obtain ⟨d, rfl, he⟩ := d_pos hd
  exact c_Pi_size_0_ok he hS w
theorem Y_Pi_clear (hd : 1 ≤ d) (hS : SH B) (w : Q (.inl none) (u2 B 103 1 0)) : qY h1 d n_Pi_clear 0 [some (.ref 103)] [] B Q := by
  obtain ⟨d, rfl, he⟩ := d_pos hd
  exact c_Pi_clear_0_ok he hS w
theorem Y_Fo_clear {a : Nat} (hd : 1 ≤ d) (hS : SH B) (ha : ob 3 a) (w : Q (.inl none) (u2 B a 1 0)) : qY h1 d n_Fo_clear 0 [some (.ref a)] [] B Q := by
  obtain ⟨d, rfl, he⟩ := d_pos hd
  exact c_Fo_clear_0_ok he hS ha w
theorem Y_Fo_amount {a : Nat} (hd : 1 ≤ d) (hS : SH B) (ha : ob 3 a) (w : Q (.inl (some (iv (B a 1)))) B) : qY h1 d n_Fo_amount 0 [some (.ref a)] [] B Q := by
  obtain ⟨d, rfl, he⟩ := d_pos hd
  exact c_Fo_amount_0_ok he hS ha w
theorem Y_Wa_mark {x : Int} (hd : 1 ≤ d) (hS : SH B) (p1 : 0 ≤ x) (p2 : x < 20) (w : Q (.inl (some (iv (B 107 x)))) B) : qY h1 d n_Wa_mark 0 [some (.ref 102), some (iv x)] [] B Q := by
  obtain ⟨d, rfl, he⟩ := d_pos hd
  exact c_Wa_mark_0_ok he hS ⟨⟨by omega, by omega⟩, fun q => absurd q (by omega), fun _ => ⟨fun q => absurd q (by omega), fun _ => ⟨p1, p2, w⟩⟩⟩
/-! numbers packed into one -/
theorem b32 {x : Int} (h1 : 0 ≤ x) (h2 : x < 4294967296) : (Int32.ofInt x).toBitVec.toNat = x.toNat := by
  show (BitVec.ofInt 32 x).toNat = _
  rw [BitVec.toNat_ofInt, Int.emod_eq_of_lt h1 (by have : (((2 ^ 32 : Nat) : Int)) = 4294967296 := by decide
                                                   omega)]
theorem i_nat {y : Int32} {n : Nat} (h : y.toBitVec.toNat = n) (hn : n < 2147483648) : y.toInt = n := by
  show y.toBitVec.toInt = _
  rw [BitVec.toInt_eq_toNat_of_lt (by rw [h]; omega), h]
theorem n_and' {x : Int} (k : Nat) (hk : k ≤ 30) (h1 : 0 ≤ x) (h2 : x < 2147483648) : iAnd x ((2 ^ k - 1 : Nat) : Int) = x % ((2 ^ k : Nat) : Int) := by
  have hp : 2 ^ k ≤ 2 ^ 30 := Nat.pow_le_pow_right (by decide) hk
  have hp0 : 0 < 2 ^ k := Nat.two_pow_pos k
  have e : (Int32.ofInt x &&& Int32.ofInt ((2 ^ k - 1 : Nat) : Int)).toBitVec.toNat = x.toNat % 2 ^ k := by
    rw [Int32.toBitVec_and, BitVec.toNat_and, b32 h1 (by omega), b32 (by omega) (by omega), Int.toNat_natCast, Nat.and_two_pow_sub_one_eq_mod]
  unfold iAnd
  have hm := Nat.mod_lt x.toNat hp0
  rw [i_nat e (by omega), Int.natCast_emod, show ((x.toNat : Nat) : Int) = x by omega]
theorem sh32 : ∀ k : Fin 32, ((Int32.ofInt ((k : Nat) : Int)).toUInt32 &&& Int32.toUInt32 31).toBitVec % 32 = BitVec.ofNat 32 (k : Nat) := by decide +kernel
theorem n_ushr {x : Int} (k : Nat) (hk : k < 32) (h1 : 0 ≤ x) (h2 : x < 2147483648) : iUshr x (k : Int) = x / ((2 ^ k : Nat) : Int) := by
  have e : (((Int32.ofInt x).toUInt32 >>> ((Int32.ofInt (k : Int)).toUInt32 &&& Int32.toUInt32 31)).toInt32).toBitVec.toNat = x.toNat / 2 ^ k := by
    show (((Int32.ofInt x).toUInt32 >>> ((Int32.ofInt (k : Int)).toUInt32 &&& Int32.toUInt32 31)).toBitVec).toNat = _
    rw [UInt32.toBitVec_shiftRight, sh32 ⟨k, hk⟩]
    show (BitVec.ushiftRight (Int32.ofInt x).toBitVec (BitVec.ofNat 32 k).toNat).toNat = _
    rw [BitVec.toNat_ofNat, Nat.mod_eq_of_lt (by omega)]
    show ((Int32.ofInt x).toBitVec >>> k).toNat = _
    rw [BitVec.toNat_ushiftRight, b32 h1 (by omega), Nat.shiftRight_eq_div_pow]
  unfold iUshr
  have hm : x.toNat / 2 ^ k ≤ x.toNat := Nat.div_le_self _ _
  rw [i_nat e (by omega), Int.natCast_ediv, show ((x.toNat : Nat) : Int) = x by omega]
theorem sh32' : ∀ k : Fin 32, (Int32.ofInt ((k : Nat) : Int) &&& 31).toBitVec.smod 32 = BitVec.ofNat 32 (k : Nat) := by decide +kernel
theorem n_shl {x : Int} (k : Nat) (hk : k < 32) (h1 : 0 ≤ x) (h2 : x * ((2 ^ k : Nat) : Int) < 2147483648) : iShl x (k : Int) = x * ((2 ^ k : Nat) : Int) := by
  have hp0 : 0 < 2 ^ k := Nat.two_pow_pos k
  have hx : x ≤ x * ((2 ^ k : Nat) : Int) := by
    have := Int.mul_le_mul_of_nonneg_left (show (1 : Int) ≤ ((2 ^ k : Nat) : Int) by omega) h1
    omega
  have hz : ((x.toNat * 2 ^ k : Nat) : Int) = x * ((2 ^ k : Nat) : Int) := by rw [Int.natCast_mul, show ((x.toNat : Nat) : Int) = x by omega]
  have e : (Int32.ofInt x <<< (Int32.ofInt (k : Int) &&& 31)).toBitVec.toNat = x.toNat * 2 ^ k := by
    show (BitVec.shiftLeft (Int32.ofInt x).toBitVec ((Int32.ofInt (k : Int) &&& 31).toBitVec.smod 32).toNat).toNat = _
    rw [sh32' ⟨k, hk⟩]
    show ((Int32.ofInt x).toBitVec <<< (BitVec.ofNat 32 k).toNat).toNat = _
    rw [BitVec.toNat_ofNat, Nat.mod_eq_of_lt (by omega), BitVec.toNat_shiftLeft, b32 h1 (by omega), Nat.shiftLeft_eq, Nat.mod_eq_of_lt (by omega)]
  unfold iShl
  rw [i_nat e (by omega), hz]
theorem n_or {x y : Int} (k : Nat) (hk : k ≤ 30) (h1 : 0 ≤ x) (h2 : x * ((2 ^ k : Nat) : Int) + y < 2147483648) (h3 : 0 ≤ y) (h4 : y < ((2 ^ k : Nat) : Int)) : iOr (x * ((2 ^ k : Nat) : Int)) y = x * ((2 ^ k : Nat) : Int) + y := by
  have hz : ((x.toNat * 2 ^ k : Nat) : Int) = x * ((2 ^ k : Nat) : Int) := by rw [Int.natCast_mul, show ((x.toNat : Nat) : Int) = x by omega]
  have e : (Int32.ofInt (x * ((2 ^ k : Nat) : Int)) ||| Int32.ofInt y).toBitVec.toNat = x.toNat * 2 ^ k + y.toNat := by
    rw [Int32.toBitVec_or, BitVec.toNat_or, b32 (by omega) (by omega), b32 h3 (by omega), ← hz, Int.toNat_natCast, ← Nat.shiftLeft_eq, ← Nat.shiftLeft_add_eq_or_of_lt (by omega)]
  unfold iOr
  rw [i_nat e (by omega)]
  omega
def pkO (k s t p : Int) : Prop := 0 ≤ k ∧ k ≤ 2 ∧ 0 ≤ s ∧ s < 1024 ∧ 0 ≤ t ∧ t < 16 ∧ 0 ≤ p ∧ p < 1024
def pkV (k s t p : Int) : Int := k * 16777216 + s * 16384 + t * 1024 + p
def enO (e : Int) : Prop := 0 ≤ e ∧ e < 2147483648
theorem pk_en {k s t p : Int} (h : pkO k s t p) : enO (pkV k s t p) ∧ pkV k s t p / 16777216 = k ∧ pkV k s t p / 16384 % 1024 = s ∧ pkV k s t p / 1024 % 16 = t ∧ pkV k s t p % 1024 = p := by
  obtain ⟨k0, k1, s0, s1, t0, t1, p0, p1⟩ := h
  unfold enO pkV
  omega
theorem Y_Pi_pack {k s t p : Int} (hd : 1 ≤ d) (hS : SH B) (h : pkO k s t p) (w : Q (.inl (some (iv (pkV k s t p)))) B) : qY h1 d n_Pi_pack 0 [some (iv k), some (iv s), some (iv t), some (iv p)] [] B Q := by
  obtain ⟨d, rfl, he⟩ := d_pos hd
  refine c_Pi_pack_0_ok he hS ?_
  obtain ⟨k0, k1, s0, s1, t0, t1, p0, p1⟩ := h
  have e1 : iShl k 24 = k * 16777216 := n_shl 24 (by decide) k0 (by show k * 16777216 < _; omega)
  have e2 : iShl s 14 = s * 16384 := n_shl 14 (by decide) s0 (by show s * 16384 < _; omega)
  have e3 : iShl t 10 = t * 1024 := n_shl 10 (by decide) t0 (by show t * 1024 < _; omega)
  have e4 : iOr (k * 16777216) (s * 16384) = k * 16777216 + s * 16384 := n_or 24 (by decide) k0 (by show k * 16777216 + _ < _; omega) (by omega) (by show s * 16384 < 16777216; omega)
  have e5 : iOr ((k * 1024 + s) * 16384) (t * 1024) = (k * 1024 + s) * 16384 + t * 1024 := n_or 14 (by decide) (by omega) (by show (k * 1024 + s) * 16384 + _ < _; omega) (by omega) (by show t * 1024 < 16384; omega)
  have e6 : iOr ((k * 16384 + s * 16 + t) * 1024) p = (k * 16384 + s * 16 + t) * 1024 + p := n_or 10 (by decide) (by omega) (by show (k * 16384 + s * 16 + t) * 1024 + _ < _; omega) (by omega) (by show p < 1024; omega)
  unfold c_Pi_pack_0
  rw [e1, e2, e3, e4, show k * 16777216 + s * 16384 = (k * 1024 + s) * 16384 by omega, e5, show (k * 1024 + s) * 16384 + t * 1024 = (k * 16384 + s * 16 + t) * 1024 by omega, e6]
  have e7 : pkV k s t p = (k * 16384 + s * 16 + t) * 1024 + p := by unfold pkV; omega
  rw [e7] at w
  exact w
theorem Y_Pi_kindOf {e : Int} (hd : 1 ≤ d) (hS : SH B) (h : enO e) (w : Q (.inl (some (iv (e / 16777216)))) B) : qY h1 d n_Pi_kindOf 0 [some (iv e)] [] B Q := by
  obtain ⟨d, rfl, he⟩ := d_pos hd
  refine c_Pi_kindOf_0_ok he hS ?_
  have e1 : iUshr e 24 = e / 16777216 := n_ushr 24 (by decide) h.1 h.2
  unfold c_Pi_kindOf_0
  rw [e1]
  exact w
theorem Y_Pi_stepOf {e : Int} (hd : 1 ≤ d) (hS : SH B) (h : enO e) (w : Q (.inl (some (iv (e / 16384 % 1024)))) B) : qY h1 d n_Pi_stepOf 0 [some (iv e)] [] B Q := by
  obtain ⟨d, rfl, he⟩ := d_pos hd
  refine c_Pi_stepOf_0_ok he hS ?_
  have e1 : iUshr e 14 = e / 16384 := n_ushr 14 (by decide) h.1 h.2
  have h0 := h.1
  have h9 := h.2
  have e2 : iAnd (e / 16384) 1023 = e / 16384 % 1024 := n_and' 10 (by decide) (by omega) (by omega)
  unfold c_Pi_stepOf_0
  rw [e1, e2]
  exact w
theorem Y_Pi_takenOf {e : Int} (hd : 1 ≤ d) (hS : SH B) (h : enO e) (w : Q (.inl (some (iv (e / 1024 % 16)))) B) : qY h1 d n_Pi_takenOf 0 [some (iv e)] [] B Q := by
  obtain ⟨d, rfl, he⟩ := d_pos hd
  refine c_Pi_takenOf_0_ok he hS ?_
  have e1 : iUshr e 10 = e / 1024 := n_ushr 10 (by decide) h.1 h.2
  have h0 := h.1
  have h9 := h.2
  have e2 : iAnd (e / 1024) 15 = e / 1024 % 16 := n_and' 4 (by decide) (by omega) (by omega)
  unfold c_Pi_takenOf_0
  rw [e1, e2]
  exact w
theorem Y_Pi_placeOf {e : Int} (hd : 1 ≤ d) (hS : SH B) (h : enO e) (w : Q (.inl (some (iv (e % 1024)))) B) : qY h1 d n_Pi_placeOf 0 [some (iv e)] [] B Q := by
  obtain ⟨d, rfl, he⟩ := d_pos hd
  refine c_Pi_placeOf_0_ok he hS ?_
  have e2 : iAnd e 1023 = e % 1024 := n_and' 10 (by decide) h.1 h.2
  unfold c_Pi_placeOf_0
  rw [e2]
  exact w
end CY0
