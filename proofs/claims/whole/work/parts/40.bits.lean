/-! BITS of the reference's words -/
def lb (x : Int) (k : Nat) : Bool := (Int64.ofInt x).toBitVec.getLsbD k
set_option maxRecDepth 100000 in
theorem sh64 : ∀ k : Fin 64, ((Int32.ofInt ((k : Nat) : Int)).toInt64 &&& 63).toBitVec.smod 64 = BitVec.ofNat 64 (k : Nat) := by decide +kernel
theorem sh64' {k : Int} (h1 : 0 ≤ k) (h2 : k < 64) : ((Int32.ofInt k).toInt64 &&& 63).toBitVec.smod 64 = BitVec.ofNat 64 k.toNat := by
  have := sh64 ⟨k.toNat, by omega⟩
  simp only [] at this
  rw [show ((k.toNat : Nat) : Int) = k by omega] at this
  exact this
theorem lb_toInt (x : Int64) (k : Nat) : lb x.toInt k = x.toBitVec.getLsbD k := by
  unfold lb
  rw [Int64.ofInt_toInt]
theorem lb_or (x y : Int) (k : Nat) : lb (lOr x y) k = (lb x k || lb y k) := by
  unfold lOr
  rw [lb_toInt, Int64.toBitVec_or, BitVec.getLsbD_or]
  rfl
theorem lb_and (x y : Int) (k : Nat) : lb (lAnd x y) k = (lb x k && lb y k) := by
  unfold lAnd
  rw [lb_toInt, Int64.toBitVec_and, BitVec.getLsbD_and]
  rfl
theorem lb_xor (x y : Int) (k : Nat) : lb (lXor x y) k = Bool.xor (lb x k) (lb y k) := by
  unfold lXor
  rw [lb_toInt, Int64.toBitVec_xor, BitVec.getLsbD_xor]
  rfl
theorem lb_m1 (k : Nat) (h : k < 64) : lb (-1) k = true := by
  have : ∀ k : Fin 64, lb (-1) k = true := by decide
  exact this ⟨k, h⟩
theorem lb_0 (k : Nat) : lb 0 k = false := by
  show (BitVec.ofInt 64 0).getLsbD k = false
  simp
theorem lb_shl1 {k : Int} (h1 : 0 ≤ k) (h2 : k < 64) (j : Nat) (hj : j < 64) : lb (lShl 1 k) j = decide (j = k.toNat) := by
  unfold lShl
  rw [lb_toInt]
  show (BitVec.shiftLeft (Int64.ofInt 1).toBitVec (((Int32.ofInt k).toInt64 &&& 63).toBitVec.smod 64).toNat).getLsbD j = _
  rw [sh64' h1 h2]
  show ((1#64) <<< (BitVec.ofNat 64 k.toNat).toNat).getLsbD j = _
  rw [BitVec.toNat_ofNat, Nat.mod_eq_of_lt (by omega), BitVec.getLsbD_shiftLeft, BitVec.getLsbD_one]
  by_cases e : j = k.toNat
  · subst e; simp; omega
  · simp [e]
    intro _ _
    omega
theorem lb_test {x k : Int} (h1 : 0 ≤ k) (h2 : k < 64) : (lCmp (lAnd (lShr x k) 1) 1 = 0) ↔ lb x k.toNat = true := by
  have e1 : (Int64.ofInt (lAnd (lShr x k) 1)).toBitVec = BitVec.setWidth 64 (BitVec.ofBool (lb x k.toNat)) := by
    unfold lAnd lShr
    rw [Int64.ofInt_toInt, Int64.ofInt_toInt, Int64.toBitVec_and]
    show (BitVec.sshiftRight' (Int64.ofInt x).toBitVec (((Int32.ofInt k).toInt64 &&& 63).toBitVec.smod 64)) &&& 1#64 = _
    rw [sh64' h1 h2, BitVec.and_one_eq_setWidth_ofBool_getLsbD]
    congr 2
    show (BitVec.sshiftRight (Int64.ofInt x).toBitVec (BitVec.ofNat 64 k.toNat).toNat).getLsbD 0 = _
    rw [BitVec.toNat_ofNat, Nat.mod_eq_of_lt (by omega), BitVec.getLsbD_sshiftRight, if_pos (by omega)]
    rfl
  unfold lCmp lg_cmp
  cases hb : lb x k.toNat with
  | true =>
    have e2 : Int64.ofInt (lAnd (lShr x k) 1) = 1 := by
      apply Int64.toBitVec_inj.mp
      rw [e1, hb]
      decide
    rw [e2]
    decide
  | false =>
    have e2 : Int64.ofInt (lAnd (lShr x k) 1) = 0 := by
      apply Int64.toBitVec_inj.mp
      rw [e1, hb]
      decide
    rw [e2]
    decide
set_option maxRecDepth 100000 in
theorem c_div : ∀ c : Fin 256, iShr ((c : Nat) : Int) 6 = (((c : Nat) / 64 : Nat) : Int) ∧ iAnd ((c : Nat) : Int) 63 = (((c : Nat) % 64 : Nat) : Int) := by decide +kernel
theorem c_shr {c : Int} (h1 : 0 ≤ c) (h2 : c < 256) : iShr c 6 = c / 64 := by
  have := (c_div ⟨c.toNat, by omega⟩).1
  simp only [] at this
  rw [show ((c.toNat : Nat) : Int) = c by omega] at this
  omega
theorem c_and {c : Int} (h1 : 0 ≤ c) (h2 : c < 256) : iAnd c 63 = c % 64 := by
  have := (c_div ⟨c.toNat, by omega⟩).2
  simp only [] at this
  rw [show ((c.toNat : Nat) : Int) = c by omega] at this
  omega
/-- is c in set number s -/
def hasB (B : qB) (s c : Int) : Bool := lb (B 27 (4 * s + c / 64)) (c % 64).toNat
theorem hasB_inc {B : qB} {s c : Int} (hc1 : 0 ≤ c) (hc2 : c < 256) (c' : Int) (h1 : 0 ≤ c') (h2 : c' < 256) : hasB (u2 B 27 (4 * s + c / 64) (lOr (B 27 (4 * s + c / 64)) (lShl 1 (c % 64)))) s c' = (hasB B s c' || decide (c' = c)) := by
  unfold hasB
  by_cases e : c' / 64 = c / 64
  · rw [e, u2_same, lb_or, lb_shl1 (by omega) (by omega) _ (by omega)]
    congr 1
    by_cases e2 : c' = c
    · subst e2; simp
    · simp only [e2, decide_false, decide_eq_false_iff_not]
      omega
  · rw [u2_idx (by omega)]
    have : ¬ c' = c := fun q => e (by rw [q])
    simp [this]
theorem hasB_oth {B : qB} {s s' x z : Int} (h0 : 4 * s ≤ x) (h1 : x < 4 * s + 4) (hs : s' ≠ s) (c' : Int) (h2 : 0 ≤ c') (h3 : c' < 256) : hasB (u2 B 27 x z) s' c' = hasB B s' c' := by
  unfold hasB
  rw [u2_idx (by omega)]
/-- a set as a number -/
def mkset (P : Nat → Bool) : Nat := (List.range 256).foldl (fun a c => if P c = true then a ||| 2 ^ c else a) 0
theorem mkset_aux (P : Nat → Bool) (c : Nat) : ∀ n, ((List.range n).foldl (fun a c => if P c = true then a ||| 2 ^ c else a) 0).testBit c = (decide (c < n) && P c) := by
  intro n
  induction n with
  | zero => simp
  | succ n ih =>
    rw [List.range_succ, List.foldl_append]
    simp only [List.foldl_cons, List.foldl_nil]
    by_cases hp : P n = true
    · rw [if_pos hp, Nat.testBit_or, ih, Nat.testBit_two_pow]
      by_cases e : n = c
      · subst e; simp [hp]
      · have : (c < n + 1) = (c < n) := by simp; omega
        simp [e, this]
    · rw [if_neg hp, ih]
      by_cases e : c = n
      · subst e; simp at hp; simp [hp]
      · have : (c < n + 1) = (c < n) := by simp; omega
        simp [this]
theorem mkset_bit (P : Nat → Bool) (c : Nat) (hc : c < 256) : (mkset P).testBit c = P c := by
  unfold mkset
  rw [mkset_aux]
  simp [hc]
