/-! THE CLASS'S CALLS: rows of bytes -/
theorem wb_shr (x : Int) {s : Nat} (hs : s < 32) (j : Nat) (hj : s + j < 32) : wb (iShr x (s : Int)) j = wb x (s + j) := by
  unfold iShr
  rw [wb_toInt, Int32.toBitVec_shiftRight]
  show (BitVec.sshiftRight (Int32.ofInt x).toBitVec ((Int32.ofInt (s : Int) &&& 31).toBitVec.smod 32).toNat).getLsbD j = _
  rw [sh32' ⟨s, hs⟩]
  show (BitVec.sshiftRight (Int32.ofInt x).toBitVec (BitVec.ofNat 32 s).toNat).getLsbD j = _
  rw [BitVec.toNat_ofNat, Nat.mod_eq_of_lt (by omega), BitVec.getLsbD_sshiftRight]
  have h1 : decide (32 ≤ j) = false := decide_eq_false (by omega)
  rw [h1, if_pos hj]
  rfl
theorem wb_nB (v : Int) (k : Nat) (hk : k < 8) : wb (nB v) k = wb v k := by
  show wb ((Int32.ofInt v).toInt8.toInt32.toInt) k = _
  rw [wb_toInt]
  show (((Int32.ofInt v).toBitVec.signExtend 8).signExtend 32).getLsbD k = (Int32.ofInt v).toBitVec.getLsbD k
  rw [BitVec.getLsbD_signExtend, BitVec.getLsbD_signExtend, if_pos hk, if_pos (by omega)]
  have h1 : decide (k < 32) = true := decide_eq_true (by omega)
  have h2 : decide (k < 8) = true := decide_eq_true hk
  rw [h1, h2]
  rfl
theorem nB_bd (v : Int) : -128 ≤ nB v ∧ nB v ≤ 127 := by
  show -128 ≤ (Int32.ofInt v).toInt8.toInt32.toInt ∧ (Int32.ofInt v).toInt8.toInt32.toInt ≤ 127
  rw [Int8.toInt_toInt32]
  have h1 := Int8.le_toInt (Int32.ofInt v).toInt8
  have h2 := Int8.toInt_lt (Int32.ofInt v).toInt8
  constructor <;> omega
theorem wb_255 (k : Nat) (hk : k < 32) : wb 255 k = decide (k < 8) := by
  have : ∀ k : Fin 32, wb 255 k = decide ((k : Nat) < 8) := by decide +kernel
  exact this ⟨k, hk⟩
theorem and_nB (v : Int) : iAnd (nB (nB v)) 255 = iAnd v 255 := by
  have b1 := a255 (nB (nB v))
  have b2 := a255 v
  refine wb_inj ⟨by omega, by omega⟩ ⟨by omega, by omega⟩ (fun k hk => ?_)
  rw [wb_and, wb_and, wb_255 k hk]
  by_cases q : k < 8
  · rw [wb_nB _ _ q, wb_nB _ _ q]
  · rw [decide_eq_false q, Bool.and_false, Bool.and_false]
theorem byt_nB (v : Int) (s : Nat) (hs : s ≤ 24) : iAnd (nB (nB (iUshr v (s : Int)))) 255 = byt v (s : Int) := by
  rw [and_nB]
  unfold byt
  have b1 := a255 (iUshr v (s : Int))
  have b2 := a255 (iShr v (s : Int))
  refine wb_inj ⟨by omega, by omega⟩ ⟨by omega, by omega⟩ (fun k hk => ?_)
  rw [wb_and, wb_and, wb_255 k hk]
  by_cases q : k < 8
  · rw [wb_ushr v (by omega), wb_shr v (by omega) k (by omega)]
  · rw [decide_eq_false q, Bool.and_false, Bool.and_false]
theorem and_sm {v : Int} (h : 0 ≤ v ∧ v ≤ 255) : iAnd v 255 = v := by
  have e : iAnd v 255 = v % 256 := n_and' 8 (by decide) h.1 (by omega)
  rw [e]
  omega
section BYL
variable {h1 : qH} {d : Nat} {Q : qO → qB → Prop} {C C' B : qB} {a a0 a1 : Nat} {n n0 : Int} {f f0 : Int → Int}
/-- one byte more -/
theorem BY.add {v : Int} (h : BY C a n f) (hn : n < bl a) (e : f n = iAnd v 255) : adB C a v = u2 (u2 C (a + 1) n (nB (nB v))) a 1 (n + 1) ∧ BY (adB C a v) a (n + 1) f ∧ (∀ b x, b ≠ a → b ≠ a + 1 → adB C a v b x = C b x) := by
  have e0 : adB C a v = u2 (u2 C (a + 1) n (nB (nB v))) a 1 (n + 1) := by
    unfold adB
    rw [h.1, if_pos hn]
  refine ⟨e0, ?_, fun b x q1 q2 => by rw [e0, u2_bank q1, u2_bank q2]⟩
  rw [e0]
  refine ⟨u2_same, ⟨by have := h.2.1; omega, by omega⟩, fun i i0 i1 => ?_⟩
  rw [u2_bank (by omega)]
  by_cases q : i = n
  · subst q
    rw [u2_same, and_nB]
    exact ⟨nB_bd _, e.symm⟩
  · rw [u2_idx q]
    exact h.2.2 i i0 (by omega)
theorem K_addPart {x2 x3 : Int} (hd : 2 ≤ d) (hS : SH C) (ha0 : ob 1 a0) (ha1 : ob 1 a1) (hne : a0 + 1 < a1 ∨ a1 + 1 < a0) (h0 : BY C a0 n0 f0) (h2 : BY C a1 n f) (hx : -1 ≤ x2 ∧ x2 ≤ 2000) (hy : -1 ≤ x3 ∧ x3 ≤ n)
    (k1 : (x2 < 0 ∨ x3 ≤ x2) → Q (.inl (some (iv 1))) C)
    (k2 : 0 ≤ x2 → x2 < x3 → bl a0 < n0 + (x3 - x2) → Q (.inl (some (iv 0))) C)
    (k3 : 0 ≤ x2 → x2 < x3 → n0 + (x3 - x2) ≤ bl a0 → ∀ C', SH C' → (∀ b x, b ≠ a0 → b ≠ a0 + 1 → C' b x = C b x) → BY C' a0 (n0 + (x3 - x2)) (fun i => if i < n0 then f0 i else f (i - n0 + x2)) → Q (.inl (some (iv 1))) C') : qY h1 d n_By_addPart 0 [some (.ref a0), some (.ref a1), some (iv x2), some (iv x3), none] [] C Q := by
  obtain ⟨d, rfl, he⟩ := d_pos hd
  have l0 := bl_or ha0
  have l1 := bl_or ha1
  have g0 := h0.2.1
  have g1 := h2.2.1
  refine c_By_addPart_0_ok he hS ha0 ha1 ?_
  unfold c_By_addPart_0
  rw [h0.1, h2.1]
  refine ⟨⟨by omega, by omega⟩, fun q => k1 (Or.inl q), fun q => ⟨⟨by omega, by omega⟩, fun q1 => k1 (Or.inr (by omega)), fun q1 => ⟨⟨by omega, by omega⟩, ⟨by omega, by omega⟩, fun q2 => ⟨⟨by omega, by omega⟩, fun q3 => ⟨q, g0.1, by omega, by omega, by omega, fun x y0 y1 => (h2.2.2 x (by omega) (by omega)).1, ?_⟩, fun q3 => k2 q (by omega) (by omega)⟩, fun q2 => by omega⟩⟩⟩
  have e1 : cpC C (a1 + 1) x2 (a0 + 1) n0 (x3 - x2) a0 1 = n0 := by
    unfold cpC
    rw [if_neg (by omega)]
    exact h0.1
  rw [e1]
  refine k3 q (by omega) (by omega) _ (SH_u2 (SH_cp hS g0.1) (by decide)) (fun b x q1 q2 => ?_) ⟨u2_same, ⟨by omega, by omega⟩, fun i i0 i1 => ?_⟩
  · rw [u2_bank q1]
    unfold cpC
    rw [if_neg (by omega)]
  · dsimp only
    rw [u2_bank (by omega)]
    unfold cpC
    by_cases z : i < n0
    · rw [if_neg (by omega), if_pos z]
      exact h0.2.2 i i0 z
    · rw [if_pos ⟨rfl, by omega, by omega⟩, if_neg z]
      exact h2.2.2 (i - n0 + x2) (by omega) (by omega)
theorem K_copy (hd : 3 ≤ d) (hS : SH C) (ha0 : ob 1 a0) (ha1 : ob 1 a1) (hne : a0 + 1 < a1 ∨ a1 + 1 < a0) (h2 : BY C a1 n f) (hn : n ≤ bl a0)
    (k : ∀ C', SH C' → (∀ b x, b ≠ a0 → b ≠ a0 + 1 → C' b x = C b x) → BY C' a0 n f → Q (.inl none) C') : qY h1 d n_By_copy 0 [some (.ref a0), some (.ref a1)] [] C Q := by
  obtain ⟨d, rfl, he⟩ := d_pos hd
  have g1 := h2.2.1
  have l1 := bl_or ha1
  refine c_By_copy_0_ok (by omega) hS ha0 ha1 ?_
  unfold c_By_copy_0
  have h2' : BY (u2 C a0 1 0) a1 n f := h2.fr (u2_bank (by omega)) (fun i => u2_bank (by omega))
  have h0' : BY (u2 C a0 1 0) a0 0 f := ⟨u2_same, ⟨Int.le_refl _, by omega⟩, fun i i0 i1 => by omega⟩
  rw [h2'.1]
  refine K_addPart (by omega) (SH_u2 hS (by decide)) ha0 ha1 hne h0' h2' ⟨by decide, by decide⟩ ⟨by omega, Int.le_refl _⟩ (fun q => ?_) (fun q0 q1 q2 => by omega) (fun q0 q1 q2 C' s1 s2 s3 => ?_)
  · have e : n = 0 := by omega
    refine ⟨1, rfl, SH_u2 hS (by decide), k _ (SH_u2 hS (by decide)) (fun b x q1 q2 => u2_bank q1) ?_⟩
    rw [e]
    exact h0'
  · refine ⟨1, rfl, s1, k _ s1 (fun b x q1 q2 => by rw [s2 b x q1 q2]; exact u2_bank q1) ?_⟩
    rw [show (0 : Int) + (n - 0) = n by omega] at s3
    refine s3.im (fun i i0 i1 => ?_)
    rw [if_neg (by omega), show i - 0 + 0 = i by omega]
end BYL
