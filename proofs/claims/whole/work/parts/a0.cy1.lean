/-! THE CLASS: small methods that call others, by their ends -/
section CY1
variable {h1 : qH} {d : Nat} {B : qB} {Q : qO → qB → Prop}
theorem Y_Re_see {x : Int} (hd : 2 ≤ d) (hS : SH B) (hR : RI B) (p1 : 0 ≤ x) (p2 : x ≤ 2) (w : Q (.inl (some (iv (sgC B (B 100 2 + x))))) B) : qY h1 d n_Re_see 0 [some (.ref 100), some (iv x), none, none] [] B Q := by
  obtain ⟨d, rfl, he⟩ := d_pos hd
  obtain ⟨r1, r2, r3, r4⟩ := hR
  have g : ∀ z, sgC B (B 100 2 + x) = z → Q (.inl (some (iv z))) B := fun z h => by rw [h] at w; exact w
  unfold sgC at g
  refine c_Re_see_0_ok he hS ⟨r1, ⟨by omega, by omega⟩, r2.R r1, fun q => ⟨r2, fun q2 => g _ ?_, fun q2 => ⟨byA_R _ _ _, fun q3 => g _ ?_, fun q3 => ⟨fun q4 => g _ ?_, fun q4 => g _ ?_⟩⟩⟩, fun q => g _ ?_⟩
  · rw [if_neg (by omega), if_pos (by omega)]
  · rw [if_neg (by omega), if_pos (by omega)]
  · rw [if_neg (by omega), if_neg (by omega)]
  · rw [if_neg (by omega), if_pos (by omega)]
  · rw [if_pos (by omega)]
theorem Y_Tr_kindOf {x : Int} (hd : 2 ≤ d) (hS : SH B) (p1 : 0 ≤ x) (p2 : x < 408) (w : Q (.inl (some (iv (B 91 x)))) B) : qY h1 d n_Tr_kindOf 0 [some (.ref 90), some (iv x)] [] B Q := by
  obtain ⟨d, rfl, he⟩ := d_pos hd
  exact c_Tr_kindOf_0_ok he hS ⟨p1, p2, w⟩
theorem Y_Tr_valueOf {x : Int} (hd : 2 ≤ d) (hS : SH B) (p1 : 0 ≤ x) (p2 : x < 408) (w : Q (.inl (some (iv (B 92 x)))) B) : qY h1 d n_Tr_valueOf 0 [some (.ref 90), some (iv x)] [] B Q := by
  obtain ⟨d, rfl, he⟩ := d_pos hd
  exact c_Tr_valueOf_0_ok he hS ⟨p1, p2, w⟩
theorem Y_Tr_innerOf {x : Int} (hd : 2 ≤ d) (hS : SH B) (p1 : 0 ≤ x) (p2 : x < 408) (w : Q (.inl (some (iv (B 93 x)))) B) : qY h1 d n_Tr_innerOf 0 [some (.ref 90), some (iv x)] [] B Q := by
  obtain ⟨d, rfl, he⟩ := d_pos hd
  exact c_Tr_innerOf_0_ok he hS ⟨p1, p2, w⟩
theorem Y_Tr_beforeOf {x : Int} (hd : 2 ≤ d) (hS : SH B) (p1 : 0 ≤ x) (p2 : x < 408) (w : Q (.inl (some (iv (B 94 x)))) B) : qY h1 d n_Tr_beforeOf 0 [some (.ref 90), some (iv x)] [] B Q := by
  obtain ⟨d, rfl, he⟩ := d_pos hd
  exact c_Tr_beforeOf_0_ok he hS ⟨p1, p2, w⟩
theorem Y_Tr_leastOf {x : Int} (hd : 2 ≤ d) (hS : SH B) (p1 : 0 ≤ x) (p2 : x < 408) (w : Q (.inl (some (iv (B 95 x)))) B) : qY h1 d n_Tr_leastOf 0 [some (.ref 90), some (iv x)] [] B Q := by
  obtain ⟨d, rfl, he⟩ := d_pos hd
  exact c_Tr_leastOf_0_ok he hS ⟨p1, p2, w⟩
theorem Y_Tr_mostOf {x : Int} (hd : 2 ≤ d) (hS : SH B) (p1 : 0 ≤ x) (p2 : x < 408) (w : Q (.inl (some (iv (B 96 x)))) B) : qY h1 d n_Tr_mostOf 0 [some (.ref 90), some (iv x)] [] B Q := by
  obtain ⟨d, rfl, he⟩ := d_pos hd
  exact c_Tr_mostOf_0_ok he hS ⟨p1, p2, w⟩
theorem Y_Tr_weightOf {x : Int} (hd : 2 ≤ d) (hS : SH B) (p1 : 0 ≤ x) (p2 : x < 408) (w : Q (.inl (some (iv (B 97 x)))) B) : qY h1 d n_Tr_weightOf 0 [some (.ref 90), some (iv x)] [] B Q := by
  obtain ⟨d, rfl, he⟩ := d_pos hd
  exact c_Tr_weightOf_0_ok he hS ⟨p1, p2, w⟩
theorem Y_Tr_chain {x y : Int} (hd : 2 ≤ d) (hS : SH B) (p1 : 0 ≤ x) (p2 : x < 408) (w : Q (.inl none) (u2 B 94 x y)) : qY h1 d n_Tr_chain 0 [some (.ref 90), some (iv x), some (iv y)] [] B Q := by
  obtain ⟨d, rfl, he⟩ := d_pos hd
  exact c_Tr_chain_0_ok he hS ⟨p1, p2, w⟩
theorem Y_Tr_add {k v i z : Int} (hd : 2 ≤ d) (hS : SH B) (p1 : 1 ≤ B 90 8) (p2 : B 90 8 ≤ 408) (p3 : R32 z) (w : Q (.inl (some (iv (adV B)))) (adT B k v i z)) : qY h1 d n_Tr_add 0 [some (.ref 90), some (iv k), some (iv v), some (iv i), some (iv z), none] [] B Q := by
  obtain ⟨d, rfl, he⟩ := d_pos hd
  unfold adV adT at w
  exact c_Tr_add_0_ok he hS ⟨⟨by omega, by omega⟩, fun q => absurd q (by omega), fun _ => ⟨fun q => ⟨by omega, q, p3, by rw [if_pos q, if_pos q] at w; exact w⟩, fun q => by rw [if_neg (by omega), if_neg (by omega)] at w; exact w⟩⟩
theorem S_Tr_add {k v i z : Int} (hS : SH B) (p1 : 1 ≤ B 90 8) (p2 : B 90 8 ≤ 408) (p3 : R32 z) : SH (adT B k v i z) := by
  unfold adT
  split
  · exact SH_u2 (SH_u2 (SH_u2 (SH_u2 (SH_u2 (SH_u2 hS (by decide)) (by omega)) (by omega)) (by omega)) (by omega)) (by omega)
  · exact hS
theorem Y_Tr_clear (hd : 2 ≤ d) (hS : SH B) (w : Q (.inl none) (u2 (u2 B 90 8 1) 98 1 0)) : qY h1 d n_Tr_clear 0 [some (.ref 90)] [] B Q := by
  obtain ⟨d, rfl, he⟩ := d_pos hd
  exact c_Tr_clear_0_ok he hS w
theorem us5 {c : Int} (h0 : 0 ≤ c) (h1 : c ≤ 255) : iUshr c 5 = c / 32 := n_ushr 5 (by decide) h0 (by omega)
theorem an31 {c : Int} (h0 : 0 ≤ c) (h1 : c ≤ 255) : iAnd c 31 = c % 32 := n_and' 5 (by decide) h0 (by omega)
theorem Y_Se_holds {a : Nat} {s c : Int} (hd : 2 ≤ d) (hS : SH B) (ha : ob 7 a) (h : hoO s c) (w : Q (.inl (some (iv (bi (hoC B a s c))))) B) : qY h1 d n_Se_holds 0 [some (.ref a), some (iv s), some (iv c)] [] B Q := by
  obtain ⟨d, rfl, he⟩ := d_pos hd
  obtain ⟨s0, s1, c0, c1⟩ := h
  have g : ∀ b, hoC B a s c = b → Q (.inl (some (iv (bi b)))) B := fun z h => by rw [h] at w; exact w
  unfold hoC at g
  refine c_Se_holds_0_ok he hS ha ⟨⟨by omega, by omega⟩, fun q => g false ?_, fun q => ?_⟩
  · rw [decide_eq_false (by omega)]; rfl
  · have e5 := us5 q c1
    refine ⟨by omega, by omega, fun q2 => g false ?_, fun q2 => g true ?_⟩
    · rw [q2]; simp
    · rw [decide_eq_true (show 0 ≤ c from q), decide_eq_true (p := ¬ iAnd (iUshr (B (a + 1) (s * 8 + iUshr c 5)) (iAnd c 31)) 1 = 0) q2]; rfl
theorem paS_8 {a : Nat} {k v n e : Int} : (u2 (u2 (u2 (u2 (u2 (u2 B a 7 (B a 7 + 1)) (a + 1) (B a 7) k) (a + 2) (B a 7) v) (a + 3) (B a 7) n) (a + 4) (B a 7) 0) (a + 5) (B a 7) e) a 8 = B a 8 := by
  rw [u2_bank (by omega), u2_bank (by omega), u2_bank (by omega), u2_bank (by omega), u2_bank (by omega), u2_idx (by decide)]
theorem paS_8' {a : Nat} {k v n e : Int} : paS B a k v n e a 8 = B a 8 := by
  unfold paS
  rw [u2_bank (by omega)]
  exact paS_8
theorem Y_Pr_add {a : Nat} {k v n e : Int} (hd : 2 ≤ d) (hS : SH B) (ha : ob 5 a) (p1 : 0 ≤ B a 7) (p2 : B a 7 < 608) (p3 : R32 k) (w : Q (.inl (some (iv (B a 7)))) (paC B a k v n e)) : qY h1 d n_Pr_add 0 [some (.ref a), some (iv k), some (iv v), some (iv n), some (iv e), none] [] B Q := by
  obtain ⟨d, rfl, he⟩ := d_pos hd
  unfold paC at w
  have t : (k = 15 ∨ k = 14 ∨ k = 7 ∨ k = 8) → c_Pr_add_123 h1 d a (B a 7) (paS B a k v n e) Q := fun h => by
    rw [if_pos h] at w
    unfold c_Pr_add_123
    rw [paS_8']
    exact w
  have f : ¬ (k = 15 ∨ k = 14 ∨ k = 7 ∨ k = 8) → Q (.inl (some (iv (B a 7)))) (paS B a k v n e) := fun h => by
    rw [if_neg h] at w
    exact w
  refine c_Pr_add_0_ok he hS ha ⟨⟨by omega, by omega⟩, fun q => absurd q (by omega), fun _ => ⟨fun q => ⟨p1, q, p3, ?_⟩, fun q => absurd q (by omega)⟩⟩
  simp only [paS_8]
  exact ⟨fun q => t (by omega), fun _ => ⟨fun q => t (by omega), fun _ => ⟨fun q => t (by omega), fun _ => ⟨fun q => f (by omega), fun q => t (by omega)⟩⟩⟩⟩
theorem S_paS {a : Nat} {k v n e : Int} (hS : SH B) (p1 : 0 ≤ B a 7) : SH (paS B a k v n e) := SH_u2 (SH_u2 (SH_u2 (SH_u2 (SH_u2 (SH_u2 (SH_u2 hS (by decide)) p1) p1) p1) p1) p1) p1
theorem S_Pr_add {a : Nat} {k v n e : Int} (hS : SH B) (ha : ob 5 a) (p1 : 0 ≤ B a 7) (p2 : B a 7 < 608) (p3 : R32 k) : SH (paC B a k v n e) := by
  unfold paC
  split
  · exact SH_u2 (S_paS hS p1) (by decide)
  · exact S_paS hS p1
theorem Y_Pr_branch {a : Nat} {s x y : Int} (hd : 2 ≤ d) (hS : SH B) (ha : ob 5 a) (p1 : 0 ≤ s) (p2 : s < 608) (w : Q (.inl none) (u2 (u2 B (a + 3) s x) (a + 4) s y)) : qY h1 d n_Pr_branch 0 [some (.ref a), some (iv s), some (iv x), some (iv y)] [] B Q := by
  obtain ⟨d, rfl, he⟩ := d_pos hd
  exact c_Pr_branch_0_ok he hS ha ⟨p1, p2, w⟩
theorem Y_Fo_add {a : Nat} {x y : Int} (hd : 2 ≤ d) (hS : SH B) (ha : ob 3 a) (p1 : 0 ≤ B a 1) (p2 : B a 1 ≤ 300) (w : Q (.inl none) (foC B a x y)) : qY h1 d n_Fo_add 0 [some (.ref a), some (iv x), some (iv y)] [] B Q := by
  obtain ⟨d, rfl, he⟩ := d_pos hd
  have e1 : (u2 B (a + 1) (2 * B a 1) x) a 1 = B a 1 := u2_bank (by omega)
  have e2 : (u2 (u2 B (a + 1) (2 * B a 1) x) (a + 1) (2 * B a 1 + 1) y) a 1 = B a 1 := by rw [u2_bank (by omega), e1]
  refine c_Fo_add_0_ok he hS ha ?_
  unfold c_Fo_add_0
  simp only [e1, e2]
  exact ⟨by omega, by omega, by omega, by omega, w⟩
theorem S_Fo_add {a : Nat} {x y : Int} (hS : SH B) (ha : ob 3 a) (p1 : 0 ≤ B a 1) (p2 : B a 1 ≤ 300) : SH (foC B a x y) := SH_u2 (SH_u2 (SH_u2 hS (by omega)) (by omega)) (by decide)
theorem Y_Fo_bound {a : Nat} {i p : Int} (hd : 2 ≤ d) (hS : SH B) (ha : ob 3 a) (p1 : 0 ≤ 2 * i + p) (p2 : 2 * i + p < 602) (w : Q (.inl (some (iv (B (a + 1) (2 * i + p))))) B) : qY h1 d n_Fo_bound 0 [some (.ref a), some (iv i), some (iv p)] [] B Q := by
  obtain ⟨d, rfl, he⟩ := d_pos hd
  exact c_Fo_bound_0_ok he hS ha ⟨p1, p2, w⟩
theorem Y_Wa_isWord {x : Int} (hd : 2 ≤ d) (hS : SH B) (p : R32 x) (w : Q (.inl (some (iv (bi (isWd x))))) B) : qY h1 d n_Wa_isWord 0 [some (iv x)] [] B Q := by
  obtain ⟨d, rfl, he⟩ := d_pos hd
  have g : ∀ b, isWd x = b → Q (.inl (some (iv (bi b)))) B := fun z h => by rw [h] at w; exact w
  unfold isWd at g
  refine c_Wa_isWord_0_ok he hS ⟨p, fun q => g true ?_, fun q => ⟨fun q2 => g true ?_, fun q2 => ⟨fun q3 => g false ?_, fun q3 => g true ?_⟩⟩⟩
  · rw [bi_n0.mp q]; rfl
  · rw [bi_n0.mp q2, Bool.or_true]; rfl
  · rw [bi_z.mp q, bi_z.mp q2, decide_eq_false q3]; rfl
  · rw [decide_eq_true q3, Bool.or_true]
theorem Y_Wa_placeBehind (hd : 2 ≤ d) (hS : SH B) (p1 : R32 (B 107 0)) (p2 : R32 (B 107 1)) (w : Q (.inl (some (iv (plB B)))) B) : qY h1 d n_Wa_placeBehind 0 [some (.ref 102)] [] B Q := by
  obtain ⟨d, rfl, he⟩ := d_pos hd
  unfold plB at w
  exact c_Wa_placeBehind_0_ok he hS ⟨p2, p1, fun q => by rw [if_neg (by omega)] at w; exact w, fun q => by rw [if_pos q] at w; exact w⟩
theorem Y_Wa_pass (hd : 2 ≤ d) (hS : SH B) (p0 : ob 5 (B 102 3).toNat) (p1 : 0 ≤ B 102 6) (p2 : B 102 6 < 608) (w : Q (.inl (some (iv 1))) (u2 B 102 6 (B ((B 102 3).toNat + 3) (B 102 6)))) : qY h1 d n_Wa_pass 0 [some (.ref 102)] [] B Q := by
  obtain ⟨d, rfl, he⟩ := d_pos hd
  exact c_Wa_pass_0_ok he hS ⟨p0, p1, p2, w⟩
theorem Y_Wa_key {s p : Int} (hd : 2 ≤ d) (hS : SH B) (p0 : ob 5 (B 102 3).toNat) (p9 : ob 1 (B 102 4).toNat) (p1 : 0 ≤ s) (p2 : s < 608) (w : Q (.inl (some (iv (keV B s p)))) B) : qY h1 d n_Wa_key 0 [some (.ref 102), some (iv s), some (iv p)] [] B Q := by
  obtain ⟨d, rfl, he⟩ := d_pos hd
  exact c_Wa_key_0_ok he hS ⟨p0, p1, p2, p9, w⟩
end CY1
