/-! THE CLASS: sets of bytes -/
def wb (x : Int) (k : Nat) : Bool := (Int32.ofInt x).toBitVec.getLsbD k
theorem wb_toInt (x : Int32) (k : Nat) : wb x.toInt k = x.toBitVec.getLsbD k := by
  unfold wb
  rw [Int32.ofInt_toInt]
theorem wb_or (x y : Int) (k : Nat) : wb (iOr x y) k = (wb x k || wb y k) := by
  unfold iOr
  rw [wb_toInt, Int32.toBitVec_or, BitVec.getLsbD_or]
  rfl
theorem wb_m1 (k : Nat) (h : k < 32) : wb (-1) k = true := by
  have : ∀ k : Fin 32, wb (-1) k = true := by decide
  exact this ⟨k, h⟩
theorem wb_0 (k : Nat) : wb 0 k = false := by
  show (BitVec.ofInt 32 0).getLsbD k = false
  simp
theorem wb_not (x : Int) (k : Nat) (h : k < 32) : wb (iXor x (-1)) k = !wb x k := by
  unfold iXor
  rw [wb_toInt, Int32.toBitVec_xor, BitVec.getLsbD_xor]
  show (Bool.xor (wb x k) (wb (-1) k)) = _
  rw [wb_m1 k h, Bool.xor_true]
theorem wb_shl1 {k : Nat} (hk : k < 32) (j : Nat) (hj : j < 32) : wb (iShl 1 (k : Int)) j = decide (j = k) := by
  unfold iShl
  rw [wb_toInt]
  show (BitVec.shiftLeft (Int32.ofInt 1).toBitVec ((Int32.ofInt (k : Int) &&& 31).toBitVec.smod 32).toNat).getLsbD j = _
  rw [sh32' ⟨k, hk⟩]
  show ((1#32) <<< (BitVec.ofNat 32 k).toNat).getLsbD j = _
  rw [BitVec.toNat_ofNat, Nat.mod_eq_of_lt (by omega), BitVec.getLsbD_shiftLeft, BitVec.getLsbD_one]
  by_cases e : j = k
  · subst e; simp; omega
  · simp [e]
    intro _ _
    omega
theorem wb_test {x : Int} {k : Nat} (hk : k < 32) : (¬ iAnd (iUshr x (k : Int)) 1 = 0) ↔ wb x k = true := by
  have e1 : (Int32.ofInt (iAnd (iUshr x (k : Int)) 1)).toBitVec = BitVec.setWidth 32 (BitVec.ofBool (wb x k)) := by
    unfold iAnd iUshr
    rw [Int32.ofInt_toInt, Int32.ofInt_toInt, Int32.toBitVec_and]
    show (((Int32.ofInt x).toUInt32 >>> ((Int32.ofInt (k : Int)).toUInt32 &&& Int32.toUInt32 31)).toBitVec) &&& 1#32 = _
    rw [UInt32.toBitVec_shiftRight, sh32 ⟨k, hk⟩, BitVec.and_one_eq_setWidth_ofBool_getLsbD]
    congr 2
    show (BitVec.ushiftRight (Int32.ofInt x).toBitVec (BitVec.ofNat 32 k).toNat).getLsbD 0 = _
    rw [BitVec.toNat_ofNat, Nat.mod_eq_of_lt (by omega)]
    show ((Int32.ofInt x).toBitVec >>> k).getLsbD 0 = _
    rw [BitVec.getLsbD_ushiftRight]
    rfl
  cases hb : wb x k with
  | true =>
    have e2 : Int32.ofInt (iAnd (iUshr x (k : Int)) 1) = 1 := by
      apply Int32.toBitVec_inj.mp
      rw [e1, hb]
      decide
    refine ⟨fun _ => rfl, fun _ h => ?_⟩
    rw [h] at e2
    exact absurd e2 (by decide)
  | false =>
    have e2 : Int32.ofInt (iAnd (iUshr x (k : Int)) 1) = 0 := by
      apply Int32.toBitVec_inj.mp
      rw [e1, hb]
      decide
    refine ⟨fun h => absurd ?_ h, fun h => by cases h⟩
    have := congrArg Int32.toInt e2
    unfold iAnd at this ⊢
    rw [Int32.ofInt_toInt] at this
    exact this
/-- what a set holds -/
theorem hoC_eq {B : qB} {a : Nat} {s c : Int} (c0 : 0 ≤ c) (c1 : c ≤ 255) : hoC B a s c = wb (B (a + 1) (s * 8 + c / 32)) (c % 32).toNat := by
  unfold hoC
  rw [decide_eq_true c0, Bool.true_and, us5 c0 c1, an31 c0 c1, show c % 32 = (((c % 32).toNat : Nat) : Int) by omega]
  have := wb_test (x := B (a + 1) (s * 8 + c / 32)) (k := (c % 32).toNat) (by omega)
  simp only [this, Int.toNat_natCast]
  cases wb (B (a + 1) (s * 8 + c / 32)) (c % 32).toNat <;> rfl
/-- set s of a alone has changed -/
def sCh (a : Nat) (s : Int) (B B' : qB) : Prop := ∀ b x, ¬ (b = a + 1 ∧ s * 8 ≤ x ∧ x < s * 8 + 8) → B' b x = B b x
theorem sCh.sh {a : Nat} {s : Int} {B B' : qB} (h : sCh a s B B') (s0 : 0 ≤ s) (hS : SH B) : SH B' := SH_same hS (fun b => h b (-1) (by omega))
theorem sCh.tr {a : Nat} {s : Int} {B B' B2 : qB} (h : sCh a s B B') (h2 : sCh a s B' B2) : sCh a s B B2 := fun b x q => (h2 b x q).trans (h b x q)
theorem sCh_u2 {a : Nat} {s x z : Int} {B : qB} (x0 : s * 8 ≤ x) (x1 : x < s * 8 + 8) : sCh a s B (u2 B (a + 1) x z) := fun b y q => by
  by_cases hb : b = a + 1
  · rw [hb, u2_idx (by intro e; subst e; exact q ⟨hb, x0, x1⟩)]
  · rw [u2_bank hb]
section CSET
variable {h1 : qH} {d : Nat} {Q : qO → qB → Prop}
theorem L_open {a : Nat} {s : Int} (hd : 1 ≤ d) (ha : ob 7 a) (s0 : 0 ≤ s) (s1 : s < 200) : ∀ (n : Nat) (k : Int) (B : qB), k + n = 8 → 0 ≤ k → SH B → (∀ B', sCh a s B B' → (∀ x, s * 8 + k ≤ x → x < s * 8 + 8 → B' (a + 1) x = 0) → (∀ x, x < s * 8 + k → B' (a + 1) x = B (a + 1) x) → Q (.inl (some (iv s))) (u2 B' a 1 (B' a 1 + 1))) → qY h1 (d + 1) n_Se_open 7 [some (.ref a), some (iv s), some (iv k)] [] B Q := by
  intro n
  induction n with
  | zero =>
    intro k B hk k0 hS w
    refine c_Se_open_7_ok hd hS ha ⟨⟨by omega, by omega⟩, fun _ => w B (fun _ _ _ => rfl) (fun x x0 x1 => absurd x0 (by omega)) (fun _ _ => rfl), fun q => absurd q (by omega)⟩
  | succ n ih =>
    intro k B hk k0 hS w
    refine c_Se_open_7_ok hd hS ha ⟨⟨by omega, by omega⟩, fun q => absurd q (by omega), fun q => ⟨by omega, by omega, ?_⟩⟩
    refine ih (k + 1) _ (by omega) (by omega) (SH_u2 hS (by omega)) (fun B' h1 h2 h3 => w B' ((sCh_u2 (by omega) (by omega)).tr h1) (fun x x0 x1 => ?_) (fun x x0 => ?_))
    · by_cases hx : x = s * 8 + k
      · rw [h3 x (by omega), hx, u2_same]
      · exact h2 x (by omega) x1
    · rw [h3 x (by omega), u2_idx (by omega)]
/-- a new set: it is empty -/
theorem Y_Se_open {a : Nat} {B : qB} (hd : 2 ≤ d) (hS : SH B) (ha : ob 7 a) (s0 : 0 ≤ B a 1) (s1 : B a 1 < 200) (w : ∀ B', sCh a (B a 1) B B' → (∀ c, 0 ≤ c → c ≤ 255 → hoC B' a (B a 1) c = false) → Q (.inl (some (iv (B a 1)))) (u2 B' a 1 (B a 1 + 1))) : qY h1 d n_Se_open 0 [some (.ref a), none, none] [] B Q := by
  obtain ⟨d, rfl, he⟩ := d_pos hd
  refine y_wk (c_Se_open_0_ok he hS ha ?_) ⟨rfl, trivial⟩
  refine L_open he ha s0 s1 8 0 B (by omega) (by omega) hS (fun B' h1 h2 _ => ?_)
  have e : B' a 1 = B a 1 := h1 a 1 (by omega)
  rw [e]
  refine w B' h1 (fun c c0 c1 => ?_)
  rw [hoC_eq c0 c1, h2 _ (by omega) (by omega), wb_0]
theorem L_range {a : Nat} {s l : Int} (hd : 1 ≤ d) (ha : ob 7 a) (s0 : 0 ≤ s) (s1 : s < 200) (l1 : l < 256) (l0 : 0 ≤ l) : ∀ (n : Nat) (k : Int) (B : qB), k + n = l + 1 → 0 ≤ k → SH B → (∀ B', sCh a s B B' → (∀ c, 0 ≤ c → c ≤ 255 → hoC B' a s c = (hoC B a s c || decide (k ≤ c ∧ c ≤ l))) → Q (.inl none) B') → qY h1 (d + 1) n_Se_addRange 3 [some (.ref a), some (iv s), none, some (iv l), some (iv k), none] [] B Q := by
  intro n
  induction n with
  | zero =>
    intro k B hk k0 hS w
    refine c_Se_addRange_3_ok hd hS ha ⟨⟨by omega, by omega⟩, ⟨by omega, by omega⟩, fun _ => w B (fun _ _ _ => rfl) (fun c c0 c1 => by rw [decide_eq_false (by omega), Bool.or_false]), fun q => absurd q (by omega)⟩
  | succ n ih =>
    intro k B hk k0 hS w
    have e5 := us5 k0 (show k ≤ 255 by omega)
    have e31 := an31 k0 (show k ≤ 255 by omega)
    refine c_Se_addRange_3_ok hd hS ha ⟨⟨by omega, by omega⟩, ⟨by omega, by omega⟩, fun q => absurd q (by omega), fun q => ⟨fun q => absurd q (by omega), fun q => ⟨by omega, by omega, ?_⟩⟩⟩
    rw [e5, e31]
    refine ih (k + 1) _ (by omega) (by omega) (SH_u2 hS (by omega)) (fun B' h1 h2 => w B' ((sCh_u2 (by omega) (by omega)).tr h1) (fun c c0 c1 => ?_))
    rw [h2 c c0 c1, hoC_eq c0 c1, hoC_eq c0 c1]
    have hm : k % 32 = (((k % 32).toNat : Nat) : Int) := by omega
    by_cases hw : k / 32 = c / 32
    · rw [hw, u2_same, wb_or, hm, wb_shl1 (by omega) _ (by omega), Bool.or_assoc]
      congr 1
      by_cases hc : k = c
      · rw [decide_eq_true (show (c % 32).toNat = (k % 32).toNat by rw [hc]), decide_eq_true (show k ≤ c ∧ c ≤ l by omega)]; rfl
      · rw [decide_eq_false (show ¬ (c % 32).toNat = (k % 32).toNat by omega), Bool.false_or]
        congr 1
        exact propext (by omega)
    · rw [u2_idx (by omega)]
      congr 2
      exact propext (by omega)
theorem Y_Se_addRange {a : Nat} {s f l : Int} {B : qB} (hd : 2 ≤ d) (hS : SH B) (ha : ob 7 a) (s0 : 0 ≤ s) (s1 : s < 200) (f0 : 0 ≤ f) (l1 : l < 256) (l0 : 0 ≤ l) (f1 : f < 256) (w : ∀ B', sCh a s B B' → (∀ c, 0 ≤ c → c ≤ 255 → hoC B' a s c = (hoC B a s c || decide (f ≤ c ∧ c ≤ l))) → Q (.inl none) B') : qY h1 d n_Se_addRange 0 [some (.ref a), some (iv s), some (iv f), some (iv l), none, none] [] B Q := by
  obtain ⟨d, rfl, he⟩ := d_pos hd
  refine y_wk (c_Se_addRange_0_ok he hS ha ?_) ⟨rfl, rfl, rfl, rfl, trivial⟩
  by_cases h : f ≤ l
  · exact L_range he ha s0 s1 l1 l0 (l + 1 - f).toNat f B (by omega) f0 hS w
  · refine c_Se_addRange_3_ok he hS ha ⟨⟨by omega, by omega⟩, ⟨by omega, by omega⟩, fun _ => w B (fun _ _ _ => rfl) (fun c c0 c1 => by rw [decide_eq_false (by omega), Bool.or_false]), fun q => absurd q (by omega)⟩
theorem L_turn {a : Nat} {s : Int} (hd : 1 ≤ d) (ha : ob 7 a) (s0 : 0 ≤ s) (s1 : s < 200) : ∀ (n : Nat) (k : Int) (B : qB), k + n = 8 → 0 ≤ k → SH B → (∀ B', sCh a s B B' → (∀ x, s * 8 + k ≤ x → x < s * 8 + 8 → B' (a + 1) x = iXor (B (a + 1) x) (-1)) → (∀ x, x < s * 8 + k → B' (a + 1) x = B (a + 1) x) → Q (.inl none) B') → qY h1 (d + 1) n_Se_turnRound 2 [some (.ref a), some (iv s), some (iv k), none] [] B Q := by
  intro n
  induction n with
  | zero =>
    intro k B hk k0 hS w
    refine c_Se_turnRound_2_ok hd hS ha ⟨⟨by omega, by omega⟩, fun _ => w B (fun _ _ _ => rfl) (fun x x0 x1 => absurd x0 (by omega)) (fun _ _ => rfl), fun q => absurd q (by omega)⟩
  | succ n ih =>
    intro k B hk k0 hS w
    refine c_Se_turnRound_2_ok hd hS ha ⟨⟨by omega, by omega⟩, fun q => absurd q (by omega), fun q => ⟨by omega, by omega, ?_⟩⟩
    refine ih (k + 1) _ (by omega) (by omega) (SH_u2 hS (by omega)) (fun B' h1 h2 h3 => w B' ((sCh_u2 (by omega) (by omega)).tr h1) (fun x x0 x1 => ?_) (fun x x0 => ?_))
    · by_cases hx : x = s * 8 + k
      · rw [h3 x (by omega), hx, u2_same]
      · rw [h2 x (by omega) x1, u2_idx hx]
    · rw [h3 x (by omega), u2_idx (by omega)]
theorem Y_Se_turnRound {a : Nat} {s : Int} {B : qB} (hd : 2 ≤ d) (hS : SH B) (ha : ob 7 a) (s0 : 0 ≤ s) (s1 : s < 200) (w : ∀ B', sCh a s B B' → (∀ c, 0 ≤ c → c ≤ 255 → hoC B' a s c = !hoC B a s c) → Q (.inl none) B') : qY h1 d n_Se_turnRound 0 [some (.ref a), some (iv s), none, none] [] B Q := by
  obtain ⟨d, rfl, he⟩ := d_pos hd
  refine y_wk (c_Se_turnRound_0_ok he hS ha ?_) ⟨rfl, rfl, trivial⟩
  refine L_turn he ha s0 s1 8 0 B (by omega) (by omega) hS (fun B' h1 h2 _ => w B' h1 (fun c c0 c1 => ?_))
  rw [hoC_eq c0 c1, hoC_eq c0 c1, h2 _ (by omega) (by omega), wb_not _ _ (by omega)]
theorem L_class {a : Nat} {s wh z : Int} (hd : 1 ≤ d) (ha : ob 7 a) (s0 : 0 ≤ s) (s1 : s < 200) (w0 : 0 ≤ wh) (w1 : wh ≤ 24) (hz : z = 0 ∨ z = 1) : ∀ (n : Nat) (k : Int) (B : qB), k + n = 8 → 0 ≤ k → SH B → (∀ B', sCh a s B B' → (∀ x, s * 8 + k ≤ x → x < s * 8 + 8 → B' (a + 1) x = iOr (B (a + 1) x) (if z = 0 then B 1000000000 (wh + (x - s * 8)) else iXor (B 1000000000 (wh + (x - s * 8))) (-1))) → (∀ x, x < s * 8 + k → B' (a + 1) x = B (a + 1) x) → Q (.inl none) B') → qY h1 (d + 1) n_Se_addClass 3 [some (.ref a), some (iv s), some (iv wh), some (iv z), some (iv k), none, none] [] B Q := by
  intro n
  induction n with
  | zero =>
    intro k B hk k0 hS w
    refine c_Se_addClass_3_ok hd hS ha ⟨⟨by omega, by omega⟩, fun _ => w B (fun _ _ _ => rfl) (fun x x0 x1 => absurd x0 (by omega)) (fun _ _ => rfl), fun q => absurd q (by omega)⟩
  | succ n ih =>
    intro k B hk k0 hS w
    have ne : (1000000000 : Nat) ≠ a + 1 := by have := ha.2.1; omega
    have step : ∀ v, v = (if z = 0 then B 1000000000 (wh + k) else iXor (B 1000000000 (wh + k)) (-1)) → c_Se_addClass_59 h1 d a s wh z k (a + 1) 1600 ((s * 8) + k) (B (a + 1) ((s * 8) + k)) v B Q := by
      intro v hv
      refine ⟨by omega, by omega, ?_⟩
      refine ih (k + 1) _ (by omega) (by omega) (SH_u2 hS (by omega)) (fun B' h1 h2 h3 => w B' ((sCh_u2 (by omega) (by omega)).tr h1) (fun x x0 x1 => ?_) (fun x x0 => ?_))
      · by_cases hx : x = s * 8 + k
        · rw [h3 x (by omega), hx, u2_same, hv, show s * 8 + k - s * 8 = k by omega]
        · rw [h2 x (by omega) x1, u2_idx hx, u2_bank ne]
      · rw [h3 x (by omega), u2_idx (by omega)]
    refine c_Se_addClass_3_ok hd hS ha ⟨⟨by omega, by omega⟩, fun q => absurd q (by omega), fun q => ⟨by omega, by omega, by omega, by omega, ⟨by omega, by omega⟩, fun q => step _ (by rw [if_pos q]), fun q => step _ (by rw [if_neg q])⟩⟩
theorem Y_Se_addClass {a : Nat} {s wh z : Int} {B : qB} (hd : 2 ≤ d) (hS : SH B) (ha : ob 7 a) (s0 : 0 ≤ s) (s1 : s < 200) (w0 : 0 ≤ wh) (w1 : wh ≤ 24) (hz : z = 0 ∨ z = 1) (w : ∀ B', sCh a s B B' → (∀ c, 0 ≤ c → c ≤ 255 → hoC B' a s c = (hoC B a s c || Bool.xor (decide (z = 1)) (wb (B 1000000000 (wh + c / 32)) (c % 32).toNat))) → Q (.inl none) B') : qY h1 d n_Se_addClass 0 [some (.ref a), some (iv s), some (iv wh), some (iv z), none, none, none] [] B Q := by
  obtain ⟨d, rfl, he⟩ := d_pos hd
  refine y_wk (c_Se_addClass_0_ok he hS ha ?_) ⟨rfl, rfl, rfl, rfl, trivial⟩
  refine L_class he ha s0 s1 w0 w1 hz 8 0 B (by omega) (by omega) hS (fun B' h1 h2 _ => w B' h1 (fun c c0 c1 => ?_))
  rw [hoC_eq c0 c1, hoC_eq c0 c1, h2 _ (by omega) (by omega), wb_or, show s * 8 + c / 32 - s * 8 = c / 32 by omega]
  congr 1
  rcases hz with rfl | rfl
  · rw [if_pos rfl, decide_eq_false (by decide), Bool.false_xor]
  · rw [if_neg (by decide), decide_eq_true (by decide), wb_not _ _ (by omega), Bool.true_xor]
end CSET
