/-! CLASS AND REFERENCE: each call is answered alike -/
/-- what the law's wrappers make of what is thrown -/
def wtb : Nat → List (String × Int) := fun k => match k with
  | 0 => [("java/lang/IndexOutOfBoundsException", 1)]
  | 1 => [("java/lang/IllegalArgumentException", 1)]
  | 2 => [("java/lang/IllegalArgumentException", 1), ("java/lang/UnsupportedOperationException", 2), ("java/lang/IndexOutOfBoundsException", 3)]
  | 3 => [("java/lang/IllegalArgumentException", 1), ("java/lang/IndexOutOfBoundsException", 2)]
  | 4 => [("java/lang/IllegalArgumentException", 1), ("java/util/NoSuchElementException", 2), ("java/lang/IndexOutOfBoundsException", 3)]
  | 5 => [("java/lang/IllegalArgumentException", 1)]
  | 6 => [("java/lang/IllegalArgumentException", 1), ("java/util/NoSuchElementException", 2), ("java/lang/IndexOutOfBoundsException", 3)]
  | 7 => [("java/lang/IllegalArgumentException", 1), ("java/lang/IndexOutOfBoundsException", 2)]
  | 8 => [("java/lang/IllegalArgumentException", 1), ("java/util/NoSuchElementException", 2), ("java/lang/IllegalStateException", 3), ("java/lang/UnsupportedOperationException", 4), ("java/lang/IndexOutOfBoundsException", 5)]
  | 9 => [("java/lang/IllegalArgumentException", 1), ("java/util/NoSuchElementException", 2), ("java/lang/ClassCastException", 3)]
  | 10 => [("java/lang/IllegalArgumentException", 1), ("java/lang/IndexOutOfBoundsException", 2)]
  | _ => [("java/lang/IllegalArgumentException", 1)]
/-- the two answers of one call -/
def PQ (c0 s0 : Int) (k : Nat) (mk : Int → Value) (o : qO) (C' : qB) (o' : qO) (B' : qB) : Prop := (∃ a, o = .inl (some (mk a)) ∧ o' = .inl (some (mk a)) ∧ B' 0 0 = 0 ∧ CIv c0 s0 C' B' ∧ OI B') ∨ (∃ (E : String) (z a : Int), (E, z) ∈ wtb k ∧ o = .inr E ∧ o' = .inl (some (mk a)) ∧ B' 0 0 = z ∧ CIv (c0 + 1) (s0 + 6) C' B' ∧ OI B')
section PAIR
variable {h : qH} {d : Nat} {C B : qB} {c0 s0 : Int}
theorem pb0 {b : Nat} {y : Int} (h : Pb b y) : b ≠ 0 := by unfold Pb at h; omega
theorem P_th {k : Nat} {mk : Int → Value} {E : String} {z a : Int} {C' : qB} (hm : (E, z) ∈ wtb k) (hO : OI B) (hc : ∀ B', (∀ b y, Pb b y → B' b y = B b y) → CIv (c0 + 1) (s0 + 6) C' B') : PQ c0 s0 k mk (.inr E) C' (.inl (some (mk a))) (u2 B 0 0 z) := Or.inr ⟨E, z, a, hm, rfl, rfl, u2_same, hc _ (fun b y p => u2_bank (pb0 p)), OI_0 hO⟩
theorem P_ok {k : Nat} {mk : Int → Value} {a : Int} (hO : OI B) (hI : CIv c0 s0 C B) : PQ c0 s0 k mk (.inl (some (mk a))) C (.inl (some (mk a))) (u2 B 0 0 0) := Or.inl ⟨a, rfl, rfl, u2_same, CI_B hI (fun b y p => u2_bank (pb0 p)), OI_0 hO⟩
theorem PP_feed {x1 x2 x3 x4 x5 : Int} (hd : 130 ≤ d) (hI : CIv c0 s0 C B) (hO : OI B) (hc : c0 + 1 ≤ 900000000) : qY h d n_P_feed 0 [some (.ref 0), some (iv x1), some (iv x2), some (iv x3), some (iv x4), some (iv x5)] [] C (fun o C' => ∀ h0, qZ 112 h0 d k_feed 0 [some (.ref 112), some (iv x1), some (iv x2), some (iv x3), some (iv x4), some (iv x5)] [] B (fun o' B' => PQ c0 s0 0 iv o C' o' B')) := by
  refine K_feed (by omega) hI hc (fun q C' hC' => ?_) (fun q C' hC' => ?_)
  · intro h0; exact qZ.mono (d := 0 + 2) (R_feed (by decide) hO (fun _ => P_th (by decide) hO hC') (fun w => absurd w q)) (by omega) (fun _ _ q => q)
  · intro h0; exact qZ.mono (d := 0 + 2) (R_feed (by decide) hO (fun w => absurd q w) (fun _ B' o1 o2 o3 o4 o5 o6 => Or.inl ⟨_, rfl, rfl, o2, hC' B' o3 o4 o5 o6, o1⟩)) (by omega) (fun _ _ q => q)
theorem PP_end {x : Int} (hd : 130 ≤ d) (hI : CIv c0 s0 C B) (hO : OI B) (hc : c0 + 1 ≤ 900000000) (hx : R32 x) : qY h d n_P_end 0 [some (.ref 0), some (iv x)] [] C (fun o C' => ∀ h0, qZ 112 h0 d k_end 0 [some (.ref 112), some (iv x)] [] B (fun o' B' => PQ c0 s0 1 iv o C' o' B')) := by
  refine K_end (by omega) hI hc hx (fun q C' hC' => ?_) (fun q0 q1 C' hC' => ?_)
  · intro h0; exact qZ.mono (d := 0 + 2) (R_end (by decide) hx hO (fun _ => P_th (by decide) hO hC') (fun w0 w1 => absurd ⟨w0, w1⟩ q)) (by omega) (fun _ _ q => q)
  · intro h0; exact qZ.mono (d := 0 + 2) (R_end (by decide) hx hO (fun w => absurd ⟨q0, q1⟩ w) (fun _ _ o1 => Or.inl ⟨_, rfl, rfl, by rw [u2_bank (by decide)]; exact u2_same, hC' _ u2_same (fun b y p q => by rw [u2_bank q]; exact u2_bank (pb0 p)), o1⟩)) (by omega) (fun _ _ q => q)
theorem PP_group {x y : Int} (hd : 130 ≤ d) (hI : CIv c0 s0 C B) (hO : OI B) (hc : c0 + 1 ≤ 900000000) (hx : R32 x) (hy : R32 y) : qY h d n_P_group 0 [some (.ref 0), some (iv x), some (iv y), none] [] C (fun o C' => ∀ h0, qZ 112 h0 d k_group 0 [some (.ref 112), some (iv x), some (iv y)] [] B (fun o' B' => PQ c0 s0 5 iv o C' o' B')) := by
  refine K_group (by omega) hI hc hx hy (fun q C' hC' => ?_) (fun q0 q1 => ?_)
  · intro h0; exact qZ.mono (d := 0 + 2) (R_group (by decide) hx hy hO (fun _ => P_th (by decide) hO hC') (fun w0 w1 => absurd ⟨w0, w1⟩ q)) (by omega) (fun _ _ q => q)
  · intro h0; exact qZ.mono (d := 0 + 2) (R_group (by decide) hx hy hO (fun w => absurd ⟨q0, q1⟩ w) (fun _ _ => P_ok hO hI)) (by omega) (fun _ _ q => q)
theorem PP_found {x y : Int} (hd : 130 ≤ d) (hI : CIv c0 s0 C B) (hO : OI B) (hc : c0 + 1 ≤ 900000000) (hx : R32 x) (hy : R32 y) : qY h d n_P_found 0 [some (.ref 0), some (iv x), some (iv y)] [] C (fun o C' => ∀ h0, qZ 112 h0 d k_found 0 [some (.ref 112), some (iv x), some (iv y)] [] B (fun o' B' => PQ c0 s0 7 iv o C' o' B')) := by
  refine K_found (by omega) hI hc hx hy (fun q C' hC' => ?_) (fun q0 q1 C' hC' => ?_) (fun q0 q1 => ?_)
  · intro h0; exact qZ.mono (d := 0 + 2) (R_found (by decide) hx hy hO (fun _ => P_th (by decide) hO hC') (fun w => absurd w q) (fun w => absurd w q)) (by omega) (fun _ _ q => q)
  · intro h0; exact qZ.mono (d := 0 + 2) (R_found (by decide) hx hy hO (fun w => absurd q0 w) (fun _ _ => P_th (by decide) hO hC') (fun _ w => absurd w q1)) (by omega) (fun _ _ q => q)
  · intro h0; exact qZ.mono (d := 0 + 2) (R_found (by decide) hx hy hO (fun w => absurd q0 w) (fun _ w => absurd q1 w) (fun _ _ => P_ok hO hI)) (by omega) (fun _ _ q => q)
theorem PP_count {x : Int} (hd : 130 ≤ d) (hI : CIv c0 s0 C B) (hO : OI B) (hc : c0 + 1 ≤ 900000000) (hx : R32 x) : qY h d n_P_count 0 [some (.ref 0), some (iv x)] [] C (fun o C' => ∀ h0, qZ 112 h0 d k_count 0 [some (.ref 112), some (iv x)] [] B (fun o' B' => PQ c0 s0 11 iv o C' o' B')) := by
  refine K_count (by omega) hI hO hc hx (fun q C' hC' => ?_) (fun q => ?_)
  · intro h0; exact qZ.mono (d := 0 + 2) (R_count (by decide) hx hO (fun _ => P_th (by decide) hO hC') (fun w => absurd w q)) (by omega) (fun _ _ q => q)
  · intro h0; exact qZ.mono (d := 0 + 2) (R_count (by decide) hx hO (fun w => absurd q w) (fun _ => P_ok hO hI)) (by omega) (fun _ _ q => q)
theorem PP_word {t i : Int} (hd : 130 ≤ d) (hI : CIv c0 s0 C B) (hO : OI B) (hc : c0 + 1 ≤ 900000000) (ht : R32 t) (hi : R32 i) : qY h d n_P_word 0 [some (.ref 0), some (iv t), some (iv i), none, none, none, none] [] C (fun o C' => ∀ h0, qZ 112 h0 d k_word 0 [some (.ref 112), some (iv t), some (iv i), none, none, none] [] B (fun o' B' => PQ c0 s0 10 wv o C' o' B')) := by
  refine K_word (by omega) hI hO hc ht hi (fun q C' hC' => ?_) (fun q0 q1 C' hC' => ?_) (fun q0 q1 => ?_)
  · intro h0; exact qZ.mono (d := 0 + 2) (R_word (by decide) ht hi hO (fun _ => P_th (by decide) hO hC') (fun w => absurd w q) (fun w => absurd w q)) (by omega) (fun _ _ q => q)
  · intro h0; exact qZ.mono (d := 0 + 2) (R_word (by decide) ht hi hO (fun w => absurd q0 w) (fun _ _ => P_th (by decide) hO hC') (fun _ w => absurd w q1)) (by omega) (fun _ _ q => q)
  · intro h0; exact qZ.mono (d := 0 + 2) (R_word (by decide) ht hi hO (fun w => absurd q0 w) (fun _ w => absurd q1 w) (fun _ _ => P_ok hO hI)) (by omega) (fun _ _ q => q)
theorem PP_text {t : Int} (hd : 130 ≤ d) (hI : CIv c0 s0 C B) (hO : OI B) (hc : c0 + 1 ≤ 900000000) (ht : R32 t) : qY h d n_P_text 0 [some (.ref 0), some (iv t), none, none] [] C (fun o C' => ∀ h0, qZ 112 h0 d k_text 0 [some (.ref 112), some (iv t), none] [] B (fun o' B' => PQ c0 s0 3 iv o C' o' B')) := by
  refine K_textc (by omega) hI hc ht (fun q C' hC' => ?_) (fun q0 q1 C' hC' => ?_) (fun q0 q1 C' hC' => ?_)
  · intro h0; exact qZ.mono (d := 0 + 2) (R_text (by decide) ht hO (fun _ B' o1 o2 o3 o4 => Or.inr ⟨_, 1, 0, by decide, rfl, rfl, o2, hC' B' o3 o4, o1⟩) (fun w => absurd w q) (fun w => absurd w q)) (by omega) (fun _ _ q => q)
  · intro h0; exact qZ.mono (d := 0 + 2) (R_text (by decide) ht hO (fun w => absurd q0 w) (fun _ _ B' o1 o2 o3 o4 => Or.inr ⟨_, 2, 0, by decide, rfl, rfl, o2, hC' B' o3 o4, o1⟩) (fun _ w => by omega)) (by omega) (fun _ _ q => q)
  · intro h0; exact qZ.mono (d := 0 + 2) (R_text (by decide) ht hO (fun w => absurd q0 w) (fun _ w => by omega) (fun _ _ B' o1 o2 o3 o4 o5 o6 o7 o8 => Or.inl ⟨_, rfl, rfl, o2, hC' B' o3 o4 o5 o6 o7 o8, o1⟩)) (by omega) (fun _ _ q => q)
theorem PP_pattern {p : Int} (hd : 130 ≤ d) (hI : CIv c0 s0 C B) (hO : OI B) (hc : c0 + 1 ≤ 900000000) (hp : R32 p) : qY h d n_P_pattern 0 [some (.ref 0), some (iv p), none, none] [] C (fun o C' => ∀ h0, qZ 112 h0 d k_pattern 0 [some (.ref 112), some (iv p), none, none] [] B (fun o' B' => PQ c0 s0 2 iv o C' o' B')) := by
  have th : ∀ (E : String) (z w : Int) (C' : qB), (E, z) ∈ wtb 2 → (∀ B', Pr B B' z w → CIv (c0 + 1) (s0 + 6) C' B') → ∀ B', Pr B B' z w → PQ c0 s0 2 iv (.inr E) C' (.inl (some (iv 0))) B' := fun E z w C' hm hC' B' hPr => Or.inr ⟨E, z, 0, hm, rfl, rfl, hPr.2.1, hC' B' hPr, hPr.1⟩
  refine K_pattern (by omega) hI hO hc hp (fun q C' hC' => ?_) (fun q w hw C' hC' => ?_) (fun q e gr hw hl C' hC' => ?_) (fun q e gr hw hl hg C' hC' => ?_) (fun q e gr hw hl hg C' hC' => ?_)
  · intro h0; exact qZ.mono (d := 0 + 8) (R_pattern (by decide) hp hO (fun _ => th _ 1 (-1) C' (by decide) hC') (fun z => absurd z q) (fun z => absurd z q) (fun z => absurd z q) (fun z => absurd z q)) (by omega) (fun _ _ q => q)
  · intro h0; refine qZ.mono (d := 0 + 8) (R_pattern (by decide) hp hO (fun z => absurd q z) (fun _ w' hw' => ?_) (fun _ e gr hw' => by rw [hw] at hw'; cases hw') (fun _ e gr hw' => by rw [hw] at hw'; cases hw') (fun _ e gr hw' => by rw [hw] at hw'; cases hw')) (by omega) (fun _ _ q => q)
    rw [hw] at hw'
    cases hw'
    exact th _ 2 w C' (by decide) hC'
  · intro h0; refine qZ.mono (d := 0 + 8) (R_pattern (by decide) hp hO (fun z => absurd q z) (fun _ w' hw' => by rw [hw] at hw'; cases hw') (fun _ e gr hw' _ => th _ 2 200 C' (by decide) hC') (fun _ e gr hw' z => by omega) (fun _ e gr hw' z => by omega)) (by omega) (fun _ _ q => q)
  · intro h0; refine qZ.mono (d := 0 + 8) (R_pattern (by decide) hp hO (fun z => absurd q z) (fun _ w' hw' => by rw [hw] at hw'; cases hw') (fun _ e gr hw' z => by omega) (fun _ e gr hw' _ _ => th _ 3 (-1) C' (by decide) hC') (fun _ e gr hw' _ z => by rw [hw] at hw'; cases hw'; omega)) (by omega) (fun _ _ q => q)
  · intro h0; refine qZ.mono (d := 0 + 8) (R_pattern (by decide) hp hO (fun z => absurd q z) (fun _ w' hw' => by rw [hw] at hw'; cases hw') (fun _ e gr hw' z => by omega) (fun _ e gr hw' _ z => by rw [hw] at hw'; cases hw'; omega) (fun _ e' gr' hw' _ _ B' o1 o2 o3 o4 o5 o6 o7 o8 o9 o10 o11 o12 => ?_)) (by omega) (fun _ _ q => q)
    rw [hw] at hw'
    cases hw'
    exact Or.inl ⟨_, rfl, rfl, o2, hC' B' o3 o4 o5 o6 o8 o9 o10 o11 o12, o1⟩
theorem PP_match {p t how a : Int} (hd : 130 ≤ d) (hI : CIv c0 s0 C B) (hO : OI B) (hc : c0 + 1 ≤ 900000000) (hp : R32 p) (ht : R32 t) (hh : R32 how) (ha : R32 a) : qY h d n_P_match 0 [some (.ref 0), some (iv p), some (iv t), some (iv how), some (iv a), none, none, none, none] [] C (fun o C' => ∀ h0, qZ 112 h0 d k_match 0 [some (.ref 112), some (iv p), some (iv t), some (iv how), some (iv a), none, none] [] B (fun o' B' => PQ c0 s0 4 iv o C' o' B')) := by
  refine K_match (by omega) hI hO hc hp ht hh ha (fun q C' hC' => ?_) (fun q q6 C' hC' => ?_) (fun q q6 q1 q2 C' hC' => ?_) (fun q q6 q1 q2 C' hC' => ?_) (fun q q6 q1 s o q2 C' hC' => ?_)
  · intro h0; exact qZ.mono (d := 0 + 11) (R_match (by decide) hp ht hh ha hO (fun _ => P_th (by decide) hO hC') (fun z => absurd z q) (fun z => absurd z q) (fun z => absurd z q) (fun z => absurd z q)) (by omega) (fun _ _ q => q)
  · intro h0; exact qZ.mono (d := 0 + 11) (R_match (by decide) hp ht hh ha hO (fun z => absurd q z) (fun _ _ => P_th (by decide) hO hC') (fun _ z => absurd q6 z) (fun _ z => absurd q6 z) (fun _ z => absurd q6 z)) (by omega) (fun _ _ q => q)
  · intro h0; exact qZ.mono (d := 0 + 11) (R_match (by decide) hp ht hh ha hO (fun z => absurd q z) (fun _ z => absurd z q6) (fun _ _ _ _ => P_th (by decide) hO hC') (fun _ _ z => absurd (z q1) q2) (fun _ _ z => absurd (z q1) q2)) (by omega) (fun _ _ q => q)
  · intro h0; exact qZ.mono (d := 0 + 11) (R_match (by decide) hp ht hh ha hO (fun z => absurd q z) (fun _ z => absurd z q6) (fun _ _ z1 z2 => absurd (q1 z1) z2) (fun _ _ _ _ B' o1 o2 o3 => Or.inl ⟨_, rfl, rfl, o2, hC' B' o3, o1⟩) (fun _ _ _ s o z => by rw [q2] at z; cases z)) (by omega) (fun _ _ q => q)
  · intro h0; refine qZ.mono (d := 0 + 11) (R_match (by decide) hp ht hh ha hO (fun z => absurd q z) (fun _ z => absurd z q6) (fun _ _ z1 z2 => absurd (q1 z1) z2) (fun _ _ _ z => by rw [q2] at z; cases z) (fun _ _ _ s' o' z B' o1 o2 o3 o4 o5 => ?_)) (by omega) (fun _ _ q => q)
    rw [q2] at z
    cases z
    exact Or.inl ⟨_, rfl, rfl, o2, hC' B' o3 o4 o5, o1⟩
theorem PP_find {p t : Int} (hd : 130 ≤ d) (hI : CIv c0 s0 C B) (hO : OI B) (hc : c0 + 1 ≤ 900000000) (hp : R32 p) (ht : R32 t) : qY h d n_P_find 0 [some (.ref 0), some (iv p), some (iv t), none, none, none, none] [] C (fun o C' => ∀ h0, qZ 112 h0 d k_find 0 [some (.ref 112), some (iv p), some (iv t), none] [] B (fun o' B' => PQ c0 s0 6 iv o C' o' B')) := by
  refine K_find (by omega) hI hO hc hp ht (fun q C' hC' => ?_) (fun q q6 C' hC' => ?_) (fun q q6 q1 C' hC' => ?_) (fun q q6 q1 l hl C' hC' => ?_)
  · intro h0; exact qZ.mono (d := 0 + 12) (R_find (by decide) hp ht hO (fun _ => P_th (by decide) hO hC') (fun z => absurd z q) (fun z => absurd z q) (fun z => absurd z q)) (by omega) (fun _ _ q => q)
  · intro h0; exact qZ.mono (d := 0 + 12) (R_find (by decide) hp ht hO (fun z => absurd q z) (fun _ _ => P_th (by decide) hO hC') (fun _ z => absurd q6 z) (fun _ z => absurd q6 z)) (by omega) (fun _ _ q => q)
  · intro h0; exact qZ.mono (d := 0 + 12) (R_find (by decide) hp ht hO (fun z => absurd q z) (fun _ z => absurd z q6) (fun _ _ _ => P_th (by decide) hO hC') (fun _ _ z => by omega)) (by omega) (fun _ _ q => q)
  · intro h0; refine qZ.mono (d := 0 + 12) (R_find (by decide) hp ht hO (fun z => absurd q z) (fun _ z => absurd z q6) (fun _ _ z => by omega) (fun _ _ _ l' hl' B' o1 o2 o3 o4 o5 => ?_)) (by omega) (fun _ _ q => q)
    rw [← hl] at hl'
    subst hl'
    exact Or.inl ⟨_, rfl, rfl, o2, hC' B' o3 o4 o5, o1⟩
theorem PP_replace {p t : Int} (hd : 130 ≤ d) (hI : CIv c0 s0 C B) (hO : OI B) (hc : c0 + 1 ≤ 900000000) (hp : R32 p) (ht : R32 t) : qY h d n_P_replace 0 [some (.ref 0), some (iv p), some (iv t), none, none, none] [] C (fun o C' => ∀ h0, qZ 112 h0 d k_replace 0 [some (.ref 112), some (iv p), some (iv t), none, none, none] [] B (fun o' B' => PQ c0 s0 8 iv o C' o' B')) := by
  have th : ∀ (E : String) (z w : Int) (C' : qB), (E, z) ∈ wtb 8 → (∀ B', Pr B B' z w → CIv (c0 + 1) (s0 + 6) C' B') → ∀ B', Pr B B' z w → PQ c0 s0 8 iv (.inr E) C' (.inl (some (iv 0))) B' := fun E z w C' hm hC' B' hPr => Or.inr ⟨E, z, 0, hm, rfl, rfl, hPr.2.1, hC' B' hPr, hPr.1⟩
  refine K_replace (by omega) hI hO hc hp ht (fun q C' hC' => ?_) (fun q q6 C' hC' => ?_) (fun q q6 q1 C' hC' => ?_) (fun q q6 q1 w hw C' hC' => ?_) (fun q q6 q1 hv hl C' hC' => ?_) (fun q q6 q1 hv l w hl hw hn C' hC' => ?_)
  · intro h0; exact qZ.mono (d := 0 + 12) (R_replace (by decide) hp ht hO (fun _ => th _ 1 (-1) C' (by decide) hC') (fun z => absurd z q) (fun z => absurd z q) (fun z => absurd z q) (fun z => absurd z q) (fun z => absurd z q)) (by omega) (fun _ _ q => q)
  · intro h0; exact qZ.mono (d := 0 + 12) (R_replace (by decide) hp ht hO (fun z => absurd q z) (fun _ _ => th _ 2 (-1) C' (by decide) hC') (fun _ z => absurd q6 z) (fun _ z => absurd q6 z) (fun _ z => absurd q6 z) (fun _ z => absurd q6 z)) (by omega) (fun _ _ q => q)
  · intro h0; exact qZ.mono (d := 0 + 12) (R_replace (by decide) hp ht hO (fun z => absurd q z) (fun _ z => absurd z q6) (fun _ _ _ => th _ 5 (-1) C' (by decide) hC') (fun _ _ z => by omega) (fun _ _ z => by omega) (fun _ _ z => by omega)) (by omega) (fun _ _ q => q)
  · intro h0; refine qZ.mono (d := 0 + 12) (R_replace (by decide) hp ht hO (fun z => absurd q z) (fun _ z => absurd z q6) (fun _ _ z => by omega) (fun _ _ _ w' hw' => ?_) (fun _ _ _ z => by rw [hw] at z; cases z) (fun _ _ _ z => by rw [hw] at z; cases z)) (by omega) (fun _ _ q => q)
    rw [hw] at hw'
    cases hw'
    exact th _ 4 w C' (by decide) hC'
  · intro h0; exact qZ.mono (d := 0 + 12) (R_replace (by decide) hp ht hO (fun z => absurd q z) (fun _ z => absurd z q6) (fun _ _ z => by omega) (fun _ _ _ w' hw' => by rw [hv] at hw'; cases hw') (fun _ _ _ _ _ => th _ 3 (-1) C' (by decide) hC') (fun _ _ _ _ l w hl' hw' z => by subst hw'; omega)) (by omega) (fun _ _ q => q)
  · intro h0; refine qZ.mono (d := 0 + 12) (R_replace (by decide) hp ht hO (fun z => absurd q z) (fun _ z => absurd z q6) (fun _ _ z => by omega) (fun _ _ _ w' hw' => by rw [hv] at hw'; cases hw') (fun _ _ _ _ z => by subst hw; omega) (fun _ _ _ _ l' w' hl' hw' _ B' o1 o2 o3 o4 o5 o6 o7 o8 o9 o10 o11 => ?_)) (by omega) (fun _ _ q => q)
    rw [← hl] at hl'
    rw [← hw] at hw'
    subst hl' hw'
    exact Or.inl ⟨_, rfl, rfl, o2, hC' B' o3 o4 o5 o6 o7 o8 o9 o10 o11, o1⟩
theorem PP_span {p t inn : Int} (hd : 130 ≤ d) (hI : CIv c0 s0 C B) (hO : OI B) (hc : c0 + 1 ≤ 900000000) (hp : R32 p) (ht : R32 t) (hi : R32 inn) : qY h d n_P_span 0 [some (.ref 0), some (iv p), some (iv t), some (iv inn), none, none, none] [] C (fun o C' => ∀ h0, qZ 112 h0 d k_span 0 [some (.ref 112), some (iv p), some (iv t), some (iv inn), none, none] [] B (fun o' B' => PQ c0 s0 9 iv o C' o' B')) := by
  refine K_span (by omega) hI hO hc hp ht hi (fun q C' hC' => ?_) (fun q q6 C' hC' => ?_) (fun q q6 q1 C' hC' => ?_) (fun q q6 s q1 => ?_)
  · intro h0; exact qZ.mono (d := 0 + 10) (R_span (by decide) hp ht hi hO (fun _ => P_th (by decide) hO hC') (fun z => absurd z q) (fun z => absurd z q) (fun z => absurd z q)) (by omega) (fun _ _ q => q)
  · intro h0; exact qZ.mono (d := 0 + 10) (R_span (by decide) hp ht hi hO (fun z => absurd q z) (fun _ _ => P_th (by decide) hO hC') (fun _ z => absurd q6 z) (fun _ z => absurd q6 z)) (by omega) (fun _ _ q => q)
  · intro h0; exact qZ.mono (d := 0 + 10) (R_span (by decide) hp ht hi hO (fun z => absurd q z) (fun _ z => absurd z q6) (fun _ _ _ B' o1 o2 o3 => Or.inr ⟨_, 3, 0, by decide, rfl, rfl, o2, hC' B' o3, o1⟩) (fun _ _ s z => by rw [q1] at z; cases z)) (by omega) (fun _ _ q => q)
  · intro h0; refine qZ.mono (d := 0 + 10) (R_span (by decide) hp ht hi hO (fun z => absurd q z) (fun _ z => absurd z q6) (fun _ _ z => by rw [q1] at z; cases z) (fun _ _ s' z B' o1 o2 o3 => ?_)) (by omega) (fun _ _ q => q)
    rw [q1] at z
    cases z
    exact Or.inl ⟨_, rfl, rfl, o2, CI_B hI o3, o1⟩
end PAIR
