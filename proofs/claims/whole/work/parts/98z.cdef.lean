/-! THE CLASS: words for the ends of small methods -/
def RI (B : qB) : Prop := ob 1 (B 100 1).toNat ∧ bOK B (B 100 1).toNat ∧ 0 ≤ B 100 2 ∧ B 100 2 ≤ 100000
/-- the sign at a place of what is read -/
def sgC (B : qB) (p : Int) : Int := if B (B 100 1).toNat 1 ≤ p then -1 else if 200 ≤ p ∨ byA B (B 100 1).toNat p < 32 ∨ 126 < byA B (B 100 1).toNat p then -2 else byA B (B 100 1).toNat p
theorem a255 (v : Int) : 0 ≤ iAnd v 255 ∧ iAnd v 255 ≤ 255 := by
  have e : (Int32.ofInt v &&& Int32.ofInt 255).toBitVec.toNat ≤ 255 := by
    rw [Int32.toBitVec_and, BitVec.toNat_and]
    exact Nat.and_le_right
  unfold iAnd
  rw [i_nat rfl (by omega)]
  omega
theorem byA_bd (B : qB) (a : Nat) (p : Int) : -1 ≤ byA B a p ∧ byA B a p ≤ 255 := by
  unfold byA
  split
  · have := a255 (B (a + 1) p); omega
  · decide
theorem byA_R (B : qB) (a : Nat) (p : Int) : R32 (byA B a p) := by have := byA_bd B a p; exact ⟨by omega, by omega⟩
theorem sgC_bd (B : qB) (p : Int) : -2 ≤ sgC B p ∧ sgC B p ≤ 126 := by
  unfold sgC
  split
  · decide
  · split
    · decide
    · omega
theorem sgC_R (B : qB) (p : Int) : R32 (sgC B p) := by have := sgC_bd B p; exact ⟨by omega, by omega⟩
def adV (B : qB) : Int := if B 90 8 < 408 then B 90 8 else 0
def adT (B : qB) (k v i w : Int) : qB := if B 90 8 < 408 then u2 (u2 (u2 (u2 (u2 (u2 B 90 8 (B 90 8 + 1)) 91 (B 90 8) k) 92 (B 90 8) v) 93 (B 90 8) i) 94 (B 90 8) 0) 97 (B 90 8) (min w 401) else B
def hoO (s c : Int) : Prop := 0 ≤ s ∧ s < 200 ∧ -1 ≤ c ∧ c ≤ 255
def hoC (B : qB) (a : Nat) (s c : Int) : Bool := decide (0 ≤ c) && decide (¬ iAnd (iUshr (B (a + 1) (s * 8 + iUshr c 5)) (iAnd c 31)) 1 = 0)
def paS (B : qB) (a : Nat) (k v n e : Int) : qB := u2 (u2 (u2 (u2 (u2 (u2 (u2 B a 7 (B a 7 + 1)) (a + 1) (B a 7) k) (a + 2) (B a 7) v) (a + 3) (B a 7) n) (a + 4) (B a 7) 0) (a + 5) (B a 7) e) (a + 6) (B a 7) (B a 8)
def paC (B : qB) (a : Nat) (k v n e : Int) : qB := if k = 15 ∨ k = 14 ∨ k = 7 ∨ k = 8 then u2 (paS B a k v n e) a 8 (B a 8 + 1) else paS B a k v n e
def foC (B : qB) (a : Nat) (x y : Int) : qB := u2 (u2 (u2 B (a + 1) (2 * B a 1) x) (a + 1) (2 * B a 1 + 1) y) a 1 (B a 1 + 1)
def plB (B : qB) : Int := if B 107 1 > B 107 0 then B 107 1 else B 107 1 + 1
def bkV (B : qB) : Int := if sgC B (B 100 2 + 1) = 63 then (if sgC B (B 100 2 + 2) = 58 then 10 else if sgC B (B 100 2 + 2) = 61 then 7 else if sgC B (B 100 2 + 2) = 33 then 8 else -1) else 9
/-- the weight of rounds as the class counts it -/
def arW (w l h g : Int) : Int := l * w + (if h = -1 then w + 1 else (h - l) * (w + 1)) + (if g = 2 then 1 else 0)
def arO (B : qB) (p l h g : Int) : Prop := 0 ≤ p ∧ p < 408 ∧ R32 h ∧ R32 g ∧ 1 ≤ B 90 8 ∧ B 90 8 ≤ 408 ∧ R32 (arW (B 97 p) l h g)
def arC (B : qB) (p l h g : Int) : qB := u2 (u2 (adT B 11 g p (arW (B 97 p) l h g)) 95 (adV B) l) 96 (adV B) h
def osO (B : qB) (r : Int) : Prop := 0 ≤ r ∧ r < 408 ∧ 0 ≤ B 93 r ∧ B 93 r < 408 ∧ 0 ≤ B 93 (B 93 r) ∧ B 93 (B 93 r) < 408 ∧ (¬ B 93 (B 93 r) = 0 → R32 (B 94 (B 93 r)) ∧ (B 94 (B 93 r) = 0 → R32 (B 94 (B 93 (B 93 r))) ∧ R32 (B 91 (B 93 (B 93 r)))))
def osV (B : qB) (r : Int) : Int := if (¬ B 93 (B 93 r) = 0) ∧ B 94 (B 93 r) = 0 ∧ B 94 (B 93 (B 93 r)) = 0 ∧ B 91 (B 93 (B 93 r)) = 2 then B 92 (B 93 (B 93 r)) else -1
def pcC (B : qB) (a : Nat) : qB := paC (u2 (u2 B a 7 0) a 8 0) a 18 0 0 0
def bbC (B : qB) (s m l z : Int) : qB := u2 (u2 B ((B 101 1).toNat + 3) s (if z = 0 then m else l)) ((B 101 1).toNat + 4) s (if z = 0 then l else m)
def weO (B : qB) : Prop := ob 1 (B 102 4).toNat ∧ bOK B (B 102 4).toNat ∧ R32 (B 102 7 - 1) ∧ R32 (B 102 7)
def weV (B : qB) : Bool := Bool.xor (isWd (byA B (B 102 4).toNat (B 102 7 - 1))) (isWd (byA B (B 102 4).toNat (B 102 7)))
def keV (B : qB) (s p : Int) : Int := B ((B 102 3).toNat + 6) s * (B (B 102 4).toNat 1 + 1) + p
