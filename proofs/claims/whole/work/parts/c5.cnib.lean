/-! THE CLASS: four bits of a word -/
theorem wb_and (x y : Int) (k : Nat) : wb (iAnd x y) k = (wb x k && wb y k) := by
  unfold iAnd
  rw [wb_toInt, Int32.toBitVec_and, BitVec.getLsbD_and]
  rfl
theorem wb_ushr (x : Int) {s : Nat} (hs : s < 32) (j : Nat) : wb (iUshr x (s : Int)) j = wb x (s + j) := by
  unfold iUshr
  rw [wb_toInt]
  show (((Int32.ofInt x).toUInt32 >>> ((Int32.ofInt (s : Int)).toUInt32 &&& Int32.toUInt32 31)).toBitVec).getLsbD j = _
  rw [UInt32.toBitVec_shiftRight, sh32 ⟨s, hs⟩]
  show (BitVec.ushiftRight (Int32.ofInt x).toBitVec (BitVec.ofNat 32 s).toNat).getLsbD j = _
  rw [BitVec.toNat_ofNat, Nat.mod_eq_of_lt (by omega)]
  show ((Int32.ofInt x).toBitVec >>> s).getLsbD j = _
  rw [BitVec.getLsbD_ushiftRight]
  rfl
theorem wb_shl (x : Int) {s : Nat} (hs : s < 32) (j : Nat) (hj : j < 32) : wb (iShl x (s : Int)) j = (decide (s ≤ j) && wb x (j - s)) := by
  unfold iShl
  rw [wb_toInt]
  show (BitVec.shiftLeft (Int32.ofInt x).toBitVec ((Int32.ofInt (s : Int) &&& 31).toBitVec.smod 32).toNat).getLsbD j = _
  rw [sh32' ⟨s, hs⟩]
  show ((Int32.ofInt x).toBitVec <<< (BitVec.ofNat 32 s).toNat).getLsbD j = _
  rw [BitVec.toNat_ofNat, Nat.mod_eq_of_lt (by omega), BitVec.getLsbD_shiftLeft]
  unfold wb
  by_cases e : s ≤ j
  · simp [e, hj]
  · simp [e, hj]
theorem wb_15 (k : Nat) (hk : k < 32) : wb 15 k = decide (k < 4) := by
  have : ∀ k : Fin 32, wb 15 k = decide ((k : Nat) < 4) := by decide +kernel
  exact this ⟨k, hk⟩
theorem wb_hi (x : Int) (k : Nat) (hk : 32 ≤ k) : wb x k = false := by
  unfold wb
  exact BitVec.getLsbD_of_ge _ _ hk
theorem wb_sm {v : Int} (h0 : 0 ≤ v) (h1 : v ≤ 15) (k : Nat) (hk : 4 ≤ k) : wb v k = false := by
  by_cases h : k < 32
  · have : ∀ (v : Fin 16) (k : Fin 32), 4 ≤ (k : Nat) → wb ((v : Nat) : Int) k = false := by decide +kernel
    have := this ⟨v.toNat, by omega⟩ ⟨k, h⟩ hk
    simp only at this
    rwa [show ((v.toNat : Nat) : Int) = v by omega] at this
  · exact wb_hi v k (by omega)
theorem wb_inj {x y : Int} (hx : R32 x) (hy : R32 y) (h : ∀ k, k < 32 → wb x k = wb y k) : x = y := by
  have e : Int32.ofInt x = Int32.ofInt y := by
    apply Int32.toBitVec_inj.mp
    apply BitVec.eq_of_getLsbD_eq
    intro i hi
    exact h i hi
  have := congrArg Int32.toInt e
  rwa [i32_in hx, i32_in hy] at this
def nib (w : Int) (j : Nat) : Int := iAnd (iUshr w ((4 * j : Nat) : Int)) 15
theorem wb_nib (w : Int) {j : Nat} (hj : j < 8) (i : Nat) (hi : i < 32) : wb (nib w j) i = (decide (i < 4) && wb w (4 * j + i)) := by
  unfold nib
  rw [wb_and, wb_ushr _ (by omega), wb_15 i hi, Bool.and_comm]
theorem nib_rg (w : Int) (j : Nat) (hj : j < 8) : 0 ≤ nib w j ∧ nib w j ≤ 15 := by
  have e : nib w j = nib w j % 16 := by
    have h2 : 0 ≤ iUshr w ((4 * j : Nat) : Int) % 16 ∧ iUshr w ((4 * j : Nat) : Int) % 16 ≤ 15 := by omega
    have hR : R32 (nib w j) := R32_i _
    have key : ∀ v : Int, R32 v → (∀ k, 4 ≤ k → k < 32 → wb v k = false) → 0 ≤ v ∧ v ≤ 15 := by
      intro v hv hb
      have hs : ∀ b0 b1 b2 b3 : Bool, ∃ u : Int, 0 ≤ u ∧ u ≤ 15 ∧ wb u 0 = b0 ∧ wb u 1 = b1 ∧ wb u 2 = b2 ∧ wb u 3 = b3 := by
        intro b0 b1 b2 b3
        cases b0 <;> cases b1 <;> cases b2 <;> cases b3
        · exact ⟨0, by decide⟩
        · exact ⟨8, by decide⟩
        · exact ⟨4, by decide⟩
        · exact ⟨12, by decide⟩
        · exact ⟨2, by decide⟩
        · exact ⟨10, by decide⟩
        · exact ⟨6, by decide⟩
        · exact ⟨14, by decide⟩
        · exact ⟨1, by decide⟩
        · exact ⟨9, by decide⟩
        · exact ⟨5, by decide⟩
        · exact ⟨13, by decide⟩
        · exact ⟨3, by decide⟩
        · exact ⟨11, by decide⟩
        · exact ⟨7, by decide⟩
        · exact ⟨15, by decide⟩
      obtain ⟨u, u0, u1, e0, e1, e2, e3⟩ := hs (wb v 0) (wb v 1) (wb v 2) (wb v 3)
      have : v = u := wb_inj hv ⟨by omega, by omega⟩ (fun k hk => by
        by_cases h4 : 4 ≤ k
        · rw [hb k h4 hk, wb_sm u0 u1 k h4]
        · rcases (by omega : k = 0 ∨ k = 1 ∨ k = 2 ∨ k = 3) with q | q | q | q <;> subst q
          · exact e0.symm
          · exact e1.symm
          · exact e2.symm
          · exact e3.symm)
      omega
    have := key _ hR (fun k h4 hk => by rw [wb_nib w hj k hk, decide_eq_false (by omega), Bool.false_and])
    omega
  omega
theorem nib_set {w v : Int} (h0 : 0 ≤ v) (h1 : v ≤ 15) {j j' : Nat} (hj : j < 8) (hj' : j' < 8) : nib (iOr (iAnd w (iXor (iShl 15 ((4 * j : Nat) : Int)) (-1))) (iShl v ((4 * j : Nat) : Int))) j' = if j' = j then v else nib w j' := by
  have hR : R32 (nib (iOr (iAnd w (iXor (iShl 15 ((4 * j : Nat) : Int)) (-1))) (iShl v ((4 * j : Nat) : Int))) j') := R32_i _
  have hR2 : R32 (nib w j') := R32_i _
  have bits : ∀ k, k < 32 → wb (nib (iOr (iAnd w (iXor (iShl 15 ((4 * j : Nat) : Int)) (-1))) (iShl v ((4 * j : Nat) : Int))) j') k = (decide (k < 4) && ((wb w (4 * j' + k) && !(decide (4 * j ≤ 4 * j' + k) && decide (4 * j' + k - 4 * j < 4))) || (decide (4 * j ≤ 4 * j' + k) && wb v (4 * j' + k - 4 * j)))) := by
    intro k hk
    rw [wb_nib _ hj' k hk]
    by_cases h4 : k < 4
    · have hlt : 4 * j' + k < 32 := by omega
      rw [wb_or, wb_and, wb_not _ _ hlt, wb_shl _ (by omega) _ hlt, wb_shl _ (by omega) _ hlt, wb_15 _ (by omega)]
    · rw [decide_eq_false h4, Bool.false_and, Bool.false_and]
  by_cases e : j' = j
  · rw [if_pos e]
    subst e
    refine wb_inj hR ⟨by omega, by omega⟩ (fun k hk => ?_)
    rw [bits k hk]
    by_cases h4 : k < 4
    · rw [decide_eq_true h4, decide_eq_true (by omega : 4 * j' ≤ 4 * j' + k), show 4 * j' + k - 4 * j' = k by omega, decide_eq_true h4]
      simp
    · rw [decide_eq_false h4, Bool.false_and, wb_sm h0 h1 k (by omega)]
  · rw [if_neg e]
    refine wb_inj hR hR2 (fun k hk => ?_)
    rw [bits k hk, wb_nib w hj' k hk]
    by_cases h4 : k < 4
    · rw [decide_eq_true h4, Bool.true_and, Bool.true_and]
      by_cases hle : 4 * j ≤ 4 * j' + k
      · rw [decide_eq_true hle, decide_eq_false (by omega : ¬ (4 * j' + k - 4 * j < 4)), wb_sm h0 h1 _ (by omega)]
        simp
      · rw [decide_eq_false hle]
        simp
    · rw [decide_eq_false h4, Bool.false_and, Bool.false_and]
