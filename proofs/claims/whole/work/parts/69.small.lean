/-! THE REFERENCE'S SEARCH: numbers, notes, its small methods -/
theorem n_shr {x : Int} (h1 : 0 ≤ x) (h2 : x < 2147483648) : iShr x 6 = x / 64 := by
  unfold iShr
  rw [show (Int32.ofInt 6 &&& 31) = (6 : Int32) from by decide]
  show (BitVec.sshiftRight' (Int32.ofInt x).toBitVec ((6 : Int32).toBitVec.smod 32)).toInt = _
  rw [show ((6 : Int32).toBitVec.smod 32) = 6#32 from by decide]
  show (BitVec.sshiftRight (Int32.ofInt x).toBitVec (6#32).toNat).toInt = _
  rw [BitVec.toInt_sshiftRight]
  show (Int32.ofInt x).toInt >>> 6 = _
  rw [i32_in ⟨by omega, by omega⟩, Int.shiftRight_eq_div_pow]
  rfl
theorem n_and {x : Int} (h1 : 0 ≤ x) (h2 : x < 2147483648) : iAnd x 63 = x % 64 := by
  unfold iAnd
  have e : (Int32.ofInt x &&& Int32.ofInt 63).toBitVec.toNat = x.toNat % 64 := by
    rw [Int32.toBitVec_and, BitVec.toNat_and]
    show (BitVec.ofInt 32 x).toNat &&& (BitVec.ofInt 32 63).toNat = _
    rw [BitVec.toNat_ofInt, show (BitVec.ofInt 32 63).toNat = 2 ^ 6 - 1 from by decide, Nat.and_two_pow_sub_one_eq_mod]
    have : (x % ((2 ^ 32 : Nat) : Int)).toNat = x.toNat := by
      rw [Int.emod_eq_of_lt h1 (by have : (((2 ^ 32 : Nat) : Int)) = 4294967296 := by decide
                                   omega)]
    rw [this]
  show (Int32.ofInt x &&& Int32.ofInt 63).toBitVec.toInt = _
  rw [BitVec.toInt_eq_toNat_of_lt (by rw [e]; omega), e]
  omega
theorem n_div {x y : Int} (h1 : 0 ≤ x) (h2 : x < 2147483648) (hy : 1 ≤ y) (hy2 : y < 2147483648) : Int32.ofInt x / Int32.ofInt y = Int32.ofInt (x / y) := by
  have hn : Int32.ofInt y ≠ -1 := by
    intro e
    have := congrArg Int32.toInt e
    rw [i32_in ⟨by omega, by omega⟩] at this
    have h9 : (-1 : Int32).toInt = -1 := by decide
    omega
  have d0 : 0 ≤ x / y := Int.ediv_nonneg h1 (by omega)
  have d1 : x / y ≤ x := Int.ediv_le_self _ h1
  apply Int32.toInt_inj.mp
  rw [Int32.toInt_div_of_ne_right _ _ hn, i32_in ⟨by omega, by omega⟩, i32_in ⟨by omega, by omega⟩, i32_in ⟨by omega, by omega⟩, Int.tdiv_eq_ediv_of_nonneg h1]
theorem n_iDiv {x y : Int} (h1 : 0 ≤ x) (h2 : x < 2147483648) (hy : 1 ≤ y) (hy2 : y < 2147483648) : iDiv x y = x / y := by
  have d0 : 0 ≤ x / y := Int.ediv_nonneg h1 (by omega)
  have d1 : x / y ≤ x := Int.ediv_le_self _ h1
  unfold iDiv
  rw [n_div h1 h2 hy hy2, i32_in ⟨by omega, by omega⟩]
theorem n_iRem {x y : Int} (h1 : 0 ≤ x) (h2 : x < 2147483648) (hy : 1 ≤ y) (hy2 : y < 2147483648) : iRem x y = x % y := by
  unfold iRem
  rw [n_div h1 h2 hy hy2, ← Int32.ofInt_mul, ← Int32.ofInt_sub]
  have e : x - x / y * y = x % y := by
    have := Int.mul_ediv_add_emod x y
    rw [Int.mul_comm] at this
    omega
  have e1 := Int.emod_nonneg x (show y ≠ 0 by omega)
  have e2 := Int.emod_lt_of_pos x (show 0 < y by omega)
  rw [e, i32_in ⟨by omega, by omega⟩]
/-- note number k -/
def fbit (B : qB) (k : Int) : Bool := lb (B 67 (k / 64)) (k % 64).toNat
def wsB (B : qB) (k : Int) : qB := u2 B 67 (k / 64) (lOr (B 67 (k / 64)) (lShl 1 (k % 64)))
theorem fbit_set {B : qB} {k : Int} (k' : Int) : fbit (wsB B k) k' = (fbit B k' || decide (k' = k)) := by
  unfold fbit wsB
  by_cases e : k' / 64 = k / 64
  · rw [e, u2_same, lb_or, lb_shl1 (by omega) (by omega) _ (by omega)]
    congr 1
    by_cases e2 : k' = k
    · subst e2; simp
    · simp only [e2, decide_false, decide_eq_false_iff_not]
      omega
  · rw [u2_idx (by omega)]
    have : ¬ k' = k := fun q => e (by rw [q])
    simp [this]
theorem fbit_clr {B : qB} {k : Int} (k' : Int) : fbit (u2 B 67 (k / 64) (lAnd (B 67 (k / 64)) (lXor (lShl 1 (k % 64)) (-1)))) k' = (fbit B k' && !decide (k' = k)) := by
  unfold fbit
  by_cases e : k' / 64 = k / 64
  · rw [e, u2_same, lb_and, lb_xor, lb_shl1 (by omega) (by omega) _ (by omega), lb_m1 _ (by omega)]
    congr 1
    by_cases e2 : k' = k
    · subst e2; simp
    · have : ¬ (k' % 64).toNat = (k % 64).toNat := by omega
      simp [this, e2]
  · rw [u2_idx (by omega)]
    have : ¬ k' = k := fun q => e (by rw [q])
    simp [this]
theorem fbit_zero {B : qB} {w : Int} (k' : Int) : fbit (u2 B 67 w 0) k' = (fbit B k' && !decide (k' / 64 = w)) := by
  unfold fbit
  by_cases e : k' / 64 = w
  · rw [e, u2_same, lb_0]
    simp
  · rw [u2_idx e]
    simp [e]
theorem fbit_eq {B B' : qB} {k : Int} (h : ∀ y, B' 67 y = B 67 y) : fbit B' k = fbit B k := by
  unfold fbit
  rw [h]
section SML
variable {m : Nat} {h0 : qH} {d : Nat} {B : qB} {Q : qO → qB → Prop}
def psB (B : qB) (v : Int) : qB := u2 (u2 B 65 (B 66 0) v) 66 0 (B 66 0 + 1)
theorem psB_66 {v : Int} : psB B v 66 0 = B 66 0 + 1 := u2_same
theorem psB_top {v : Int} : psB B v 65 (B 66 0) = v := by unfold psB; rw [u2_bank (by decide), u2_same]
theorem psB_low {v y : Int} (h : y ≠ B 66 0) : psB B v 65 y = B 65 y := by unfold psB; rw [u2_bank (by decide), u2_idx h]
theorem psB_oth {v y : Int} {b : Nat} (h : b ≠ 65) (h2 : b ≠ 66) : psB B v b y = B b y := by unfold psB; rw [u2_bank h2, u2_bank h]
theorem R_push (hm : m + 100 < 1000000000) {v : Int} (h1 : 0 ≤ B 66 0) (h2 : B 66 0 < 2500000) (k : Q (.inl none) (psB B v)) : qZ m h0 (d + 1) k_push 0 [some (.ref m), some (iv v)] [] B Q := by
  refine r_push_0_ok hm ?_
  unfold r_push_0
  exact ⟨h1, h2, k⟩
/-- the word that tells what a slot was -/
def bw (s v : Int) : Int := -1 - (2048 * s + v + 1)
theorem R_before (hm : m + 100 < 1000000000) {s v : Int} (h1 : 0 ≤ B 66 0) (h2 : B 66 0 < 2500000) (k : Q (.inl none) (psB B (bw s v))) : qZ m h0 (d + 2) k_before 0 [some (.ref m), some (iv s), some (iv v)] [] B Q := by
  refine r_before_0_ok hm ?_
  unfold r_before_0
  refine R_push hm h1 h2 ⟨rfl, ?_⟩
  unfold r_before_15
  exact k
theorem R_restC (hm : m + 100 < 1000000000) {s v : Int} (s0 : 0 ≤ s) (s1 : s < 20) (v0 : -1 ≤ v) (v1 : v ≤ 1000) (k : Q (.inl none) (u2 B 49 s v)) : qZ m h0 (d + 1) k_restored 0 [some (.ref m), some (iv (bw s v)), none, none, none] [] B Q := by
  refine r_restored_0_ok hm ?_
  unfold r_restored_0 bw
  have e : (-1) - (-1 - (2048 * s + v + 1)) = 2048 * s + v + 1 := by omega
  rw [e, n_iDiv (by omega) (by omega) (by decide) (by decide), n_iRem (by omega) (by omega) (by decide) (by decide)]
  have e1 : (2048 * s + v + 1) / 2048 = s := by omega
  have e2 : (2048 * s + v + 1) % 2048 - 1 = v := by omega
  rw [e1, e2]
  exact ⟨fun q => by omega, fun _ => ⟨s0, s1, k⟩⟩
theorem R_restM (hm : m + 100 < 1000000000) {s v : Int} (s0 : 0 ≤ s) (s1 : s < 800) (v0 : -1 ≤ v) (v1 : v ≤ 1000) (k : Q (.inl none) (u2 B 51 s v)) : qZ m h0 (d + 1) k_restored 0 [some (.ref m), some (iv (bw (32 + s) v)), none, none, none] [] B Q := by
  refine r_restored_0_ok hm ?_
  unfold r_restored_0 bw
  have e : (-1) - (-1 - (2048 * (32 + s) + v + 1)) = 2048 * (32 + s) + v + 1 := by omega
  rw [e, n_iDiv (by omega) (by omega) (by decide) (by decide), n_iRem (by omega) (by omega) (by decide) (by decide)]
  have e1 : (2048 * (32 + s) + v + 1) / 2048 = 32 + s := by omega
  have e2 : (2048 * (32 + s) + v + 1) % 2048 - 1 = v := by omega
  rw [e1, e2]
  refine ⟨fun _ => ⟨by omega, by omega, ?_⟩, fun q => by omega⟩
  rw [show 32 + s - 32 = s by omega]
  exact k
theorem R_byteAt (hm : m + 100 < 1000000000) {p : Int} (h1 : 0 ≤ B 58 0 + p) (h2 : B 58 0 + p < 4000) (k : Q (.inl (some (iv (B 5 (B 58 0 + p))))) B) : qZ m h0 (d + 1) k_byteAt 0 [some (.ref m), some (iv p)] [] B Q := by
  refine r_byteAt_0_ok hm ?_
  unfold r_byteAt_0
  exact ⟨h1, h2, k⟩
theorem R_has (hm : m + 100 < 1000000000) {s c : Int} (s0 : 0 ≤ s) (s1 : s < 256) (c0 : 0 ≤ c) (c1 : c < 256) (k : Q (.inl (some (iv (bi (hasB B s c))))) B) : qZ m h0 (d + 1) k_has 0 [some (.ref m), some (iv s), some (iv c)] [] B Q := by
  refine r_has_0_ok hm ?_
  unfold r_has_0
  rw [c_shr c0 c1, c_and c0 c1]
  refine ⟨by omega, by omega, fun q => ?_, fun q => ?_⟩
  · rw [lb_test (by omega) (by omega)] at q
    have e : hasB B s c = false := by unfold hasB; exact Bool.eq_false_iff.mpr q
    rw [e] at k
    exact k
  · rw [lb_test (by omega) (by omega)] at q
    have e : hasB B s c = true := q
    rw [e] at k
    exact k
/-- text of the search -/
def tB (B : qB) (p : Int) : Int := B 5 (B 58 0 + p)
def TXT (B : qB) : Prop := 0 ≤ B 57 0 ∧ B 57 0 ≤ 1000 ∧ 0 ≤ B 58 0 ∧ B 58 0 ≤ 3000 ∧ ∀ x, 0 ≤ x → x < 4000 → 0 ≤ B 5 x ∧ B 5 x < 256
theorem tB_R (h : TXT B) {p : Int} (p0 : 0 ≤ p) (p1 : p < B 57 0) : 0 ≤ tB B p ∧ tB B p < 256 := h.2.2.2.2 _ (by have := h.2.2.1; omega) (by have := h.2.1; have := h.2.2.2.1; omega)
theorem R_isEdge (hm : m + 100 < 1000000000) {p : Int} (hT : TXT B) (p0 : 0 ≤ p) (p1 : p ≤ B 57 0) (k : Q (.inl (some (iv (bi (edg (B 57 0) (tB B) p))))) B) : qZ m h0 (d + 3) k_isEdge 0 [some (.ref m), some (iv p), none, none] [] B Q := by
  obtain ⟨t1, t2, t3, t4, t5⟩ := hT
  have main : ∀ x : Int, x = bi (decide (0 < p) && isWd (tB B (p - 1))) → r_isEdge_22 m h0 (d + 2) p x B Q := by
    intro x hx
    have hR : R32 x := hx ▸ bi_R _
    have fin : ∀ y : Int, y = bi (decide (p < B 57 0) && isWd (tB B p)) → r_isEdge_47 m h0 (d + 2) x y B Q := by
      intro y hy
      unfold r_isEdge_47
      have hRy : R32 y := hy ▸ bi_R _
      have ek : bi (edg (B 57 0) (tB B) p) = if x = y then 0 else 1 := by
        rw [hx, hy]
        unfold edg
        generalize (decide (0 < p) && isWd (tB B (p - 1))) = u
        generalize (decide (p < B 57 0) && isWd (tB B p)) = v
        cases u <;> cases v <;> rfl
      rw [ek] at k
      exact ⟨hR, hRy, fun q => by rw [if_pos q] at k; exact k, fun q => by rw [if_neg q] at k; exact k⟩
    unfold r_isEdge_22
    refine ⟨⟨by omega, by omega⟩, ⟨by omega, by omega⟩, fun q => ?_, fun q => ?_⟩
    · unfold r_isEdge_46
      exact fin 0 (by rw [show decide (p < B 57 0) = false by simp; omega]; rfl)
    · refine qZ.mono (d := d + 1) (R_byteAt hm (by omega) (by omega) ⟨_, rfl, ?_⟩) (by omega) (fun _ _ q => q)
      unfold r_isEdge_36
      have hb := t5 (B 58 0 + p) (by omega) (by omega)
      refine R_isWord hm ⟨by omega, by omega⟩ ⟨_, rfl, ?_⟩
      unfold r_isEdge_39
      have hq : decide (p < B 57 0) = true := by simp; omega
      refine ⟨bi_R _, fun z => ?_, fun z => ?_⟩
      · unfold r_isEdge_46
        exact fin 0 (by rw [hq, Bool.true_and]; unfold tB; exact z.symm)
      · refine fin 1 ?_
        rw [hq, Bool.true_and]
        unfold tB
        rcases bi_01 (isWd (B 5 (B 58 0 + p))) with z2 | z2
        · exact absurd z2 z
        · exact z2.symm
  refine r_isEdge_0_ok hm ?_
  unfold r_isEdge_0
  refine ⟨⟨by omega, by omega⟩, fun q => ?_, fun q => ?_⟩
  · unfold r_isEdge_21
    exact main 0 (by rw [show decide (0 < p) = false by simp; omega]; rfl)
  · refine qZ.mono (d := d + 1) (R_byteAt hm (by omega) (by omega) ⟨_, rfl, ?_⟩) (by omega) (fun _ _ q => q)
    unfold r_isEdge_11
    have hb := t5 (B 58 0 + (p - 1)) (by omega) (by omega)
    refine R_isWord hm ⟨by omega, by omega⟩ ⟨_, rfl, ?_⟩
    unfold r_isEdge_14
    have hq : decide (0 < p) = true := by simp; omega
    refine ⟨bi_R _, fun z => ?_, fun z => ?_⟩
    · unfold r_isEdge_21
      exact main 0 (by rw [hq, Bool.true_and]; unfold tB; exact z.symm)
    · refine main 1 ?_
      rw [hq, Bool.true_and]
      unfold tB
      rcases bi_01 (isWd (B 5 (B 58 0 + (p - 1)))) with z2 | z2
      · exact absurd z2 z
      · exact z2.symm
theorem R_clearNotes (hm : m + 100 < 1000000000) {f t : Int} (f0 : 0 ≤ f) (hft : f ≤ t) (n0 : 0 ≤ B 57 0) (t1 : t * (B 57 0 + 1) ≤ 5120000) (k : ∀ B', (∀ b y, b ≠ 67 → B' b y = B b y) → (∀ j, fbit B' j = (fbit B j && !(decide (f * (B 57 0 + 1) ≤ j) && decide (j < t * (B 57 0 + 1))))) → Q (.inl none) B') : qZ m h0 (d + 1) k_clearNotes 0 [some (.ref m), some (iv f), some (iv t), none, none] [] B Q := by
  have hf : 0 ≤ f * (B 57 0 + 1) := Int.mul_nonneg f0 (by omega)
  have hFT : f * (B 57 0 + 1) ≤ t * (B 57 0 + 1) := Int.mul_le_mul_of_nonneg_right hft (by omega)
  refine r_clearNotes_0_ok hm ?_
  unfold r_clearNotes_0
  generalize f * (B 57 0 + 1) = F at *
  generalize t * (B 57 0 + 1) = T at *
  have L : ∀ (N : Nat) (x : Int) (B1 : qB), T - x ≤ N → F ≤ x → x ≤ 5120064 → (∀ b y, b ≠ 67 → B1 b y = B b y) → (∀ j, fbit B1 j = (fbit B j && !(decide (F ≤ j) && (decide (j < x) && decide (j < T))))) → 0 ≤ T → qZ m h0 (d + 1) k_clearNotes 19 [some (.ref m), none, none, some (iv T), some (iv x)] [] B1 Q := by
    intro N
    induction N with
    | zero =>
      intro x B1 hN hx hx2 he hb hT
      refine r_clearNotes_19_ok hm ?_
      unfold r_clearNotes_19
      refine ⟨⟨by omega, by omega⟩, ⟨by omega, by omega⟩, fun _ => k B1 he (fun j => ?_), fun q => by omega⟩
      rw [hb j]
      congr 2
      congr 1
      by_cases q : j < T
      · simp [q]; omega
      · simp [q]
    | succ N ih =>
      intro x B1 hN hx hx2 he hb hT
      refine r_clearNotes_19_ok hm ?_
      unfold r_clearNotes_19
      refine ⟨⟨by omega, by omega⟩, ⟨by omega, by omega⟩, fun q => k B1 he (fun j => ?_), fun q => ?_⟩
      · rw [hb j]
        congr 2
        congr 1
        by_cases q2 : j < T
        · simp [q2]; omega
        · simp [q2]
      · have one : r_clearNotes_59 m h0 d T x B1 Q := by
          unfold r_clearNotes_59 r_clearNotes_83
          rw [n_shr (by omega) (by omega), n_and (by omega) (by omega)]
          refine ⟨by omega, by omega, ih (x + 1) _ (by omega) (by omega) (by omega) (fun b y hbn => by rw [u2_bank hbn]; exact he b y hbn) (fun j => ?_) hT⟩
          rw [fbit_clr, hb j, Bool.and_assoc]
          congr 1
          by_cases e : j = x
          · subst e
            simp
            omega
          · simp only [e, decide_false, Bool.not_false, Bool.and_true]
            congr 2
            congr 1
            have : (decide (j < x)) = decide (j < x + 1) := by
              by_cases q3 : j < x
              · simp [q3]; omega
              · simp [q3]; omega
            rw [this]
        refine ⟨fun _ => one, fun hz => ⟨⟨by omega, by omega⟩, fun _ => one, fun hle => ?_⟩⟩
        rw [n_and (by omega) (by omega)] at hz
        unfold r_clearNotes_83
        rw [n_shr (by omega) (by omega), show x + 63 + 1 = x + 64 by omega]
        refine ⟨by omega, by omega, ih (x + 64) _ (by omega) (by omega) (by omega) (fun b y hbn => by rw [u2_bank hbn]; exact he b y hbn) (fun j => ?_) hT⟩
        rw [fbit_zero, hb j, Bool.and_assoc]
        congr 1
        by_cases e : j / 64 = x / 64
        · have h1 : decide (F ≤ j) = true := by simp; omega
          have h2 : decide (j < x + 64) = true := by simp; omega
          have h3 : decide (j < T) = true := by simp; omega
          simp [e, h1, h2, h3]
        · simp only [e, decide_false, Bool.not_false, Bool.and_true]
          congr 2
          congr 1
          have : (decide (j < x)) = decide (j < x + 64) := by
            by_cases q3 : j < x
            · simp [q3]; omega
            · simp [q3]; omega
          rw [this]
  refine L (T - F).toNat F B (by omega) (Int.le_refl _) (by omega) (fun _ _ _ => rfl) (fun j => ?_) (by omega)
  have : (decide (F ≤ j) && (decide (j < F) && decide (j < T))) = false := by
    by_cases q : F ≤ j
    · have : decide (j < F) = false := by simp; omega
      simp [this]
    · simp [q]
  rw [this]
  simp
end SML
