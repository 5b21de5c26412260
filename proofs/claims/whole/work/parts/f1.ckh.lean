/-! THE CLASS'S CALLS: what they share -/
section KH
variable {h1 : qH} {d : Nat} {Q : qO → qB → Prop} {C B : qB} {c0 s0 : Int}
theorem K_prog {x : Int} (hd : 1 ≤ d) (hS : SH C) (hD : DI c0 s0 C) (hx : R32 x) (k1 : ¬ (0 ≤ x ∧ x ≤ 7) → Q (.inr "java/lang/IllegalArgumentException") (thC C)) (k2 : 0 ≤ x → x ≤ 7 → Q (.inl (some (.ref (pa x.toNat)))) C) : qY h1 d n_P_programAt 0 [some (.ref 0), some (iv x)] [] C Q := by
  obtain ⟨d, rfl, he⟩ := d_pos hd
  exact c_P_programAt_0_ok he hS ⟨hx, fun q => ⟨hD.ctr, k1 (by omega)⟩, fun q => ⟨fun q => ⟨hD.ctr, k1 (by omega)⟩, fun q => ⟨by omega, q, by rw [if_neg (by decide)]; exact k2 (by omega) (by omega)⟩⟩⟩
theorem K_text {x : Int} (hd : 1 ≤ d) (hS : SH C) (hD : DI c0 s0 C) (hx : R32 x) (k1 : ¬ (0 ≤ x ∧ x ≤ 3) → Q (.inr "java/lang/IllegalArgumentException") (thC C)) (k2 : 0 ≤ x → x ≤ 3 → Q (.inl (some (.ref (75 + 2 * x.toNat)))) C) : qY h1 d n_P_textAt 0 [some (.ref 0), some (iv x)] [] C Q := by
  obtain ⟨d, rfl, he⟩ := d_pos hd
  exact c_P_textAt_0_ok he hS ⟨hx, fun q => ⟨hD.ctr, k1 (by omega)⟩, fun q => ⟨fun q => ⟨hD.ctr, k1 (by omega)⟩, fun q => ⟨by omega, q, by rw [if_pos rfl]; exact k2 (by omega) (by omega)⟩⟩⟩
theorem K_part {x : Int} (hd : 1 ≤ d) (hS : SH C) (hD : DI c0 s0 C) (hx : R32 x) (k1 : ¬ (0 ≤ x ∧ x ≤ 1) → Q (.inr "java/lang/IllegalArgumentException") (thC C)) (k2 : 0 ≤ x → x ≤ 1 → Q (.inl none) C) : qY h1 d n_P_needPart 0 [some (iv x)] [] C Q := by
  obtain ⟨d, rfl, he⟩ := d_pos hd
  exact c_P_needPart_0_ok he hS ⟨hx, fun q => ⟨hD.ctr, k1 (by omega)⟩, fun q => ⟨fun q => k2 (by omega) q, fun q => ⟨hD.ctr, k1 (by omega)⟩⟩⟩
theorem K_pat {a : Nat} (hd : 2 ≤ d) (hS : SH C) (hD : DI c0 s0 C) (ha : ob 5 a) (hx : R32 (C a 10)) (k1 : C a 10 = -1 → Q (.inr "java/util/NoSuchElementException") (thC C)) (k2 : ¬ C a 10 = -1 → Q (.inl none) C) : qY h1 d n_P_needPattern 0 [some (.ref a)] [] C Q := by
  obtain ⟨d, rfl, he⟩ := d_pos hd
  exact c_P_needPattern_0_ok he hS ha ⟨hx, fun q => k2 q, fun q => ⟨hD.ctr, k1 q⟩⟩
theorem K_short {a : Nat} (hd : 2 ≤ d) (hS : SH C) (hD : DI c0 s0 C) (ha : ob 1 a) (hx : bOK C a) (k1 : 300 < C a 1 → Q (.inr "java/lang/IndexOutOfBoundsException") (thC C)) (k2 : C a 1 ≤ 300 → Q (.inl none) C) : qY h1 d n_P_needShort 0 [some (.ref a)] [] C Q := by
  obtain ⟨d, rfl, he⟩ := d_pos hd
  exact c_P_needShort_0_ok he hS ha ⟨bOK.R ha hx, fun q => k2 q, fun q => ⟨hD.ctr, k1 (by omega)⟩⟩
/-- the tape is taken -/
theorem K_take (hd : 2 ≤ d) (hI : CIv c0 s0 C B) (k : ∀ C' src, ob 1 src → bl src = 1200 → C' 0 9 = ((src : Nat) : Int) → (src = 84 ∨ src = 86) → BY C' src (B 2 0) (B 1) → (∀ b x, b ≠ 0 → b < 75 ∨ 90 ≤ b → C' b x = C b x) → (∀ B', B' 2 0 = 0 → (∀ b y, Pb b y → b ≠ 1 → b ≠ 2 → B' b y = B b y) → CIv c0 s0 C' B') → Q (.inl (some (.ref src))) C') : qY h1 d n_P_takeTape 0 [some (.ref 0), none] [] C Q := by
  obtain ⟨d, rfl, he⟩ := d_pos hd
  obtain ⟨hS, hD, hK, hT, hO, hF, h12, hG, hX, hP⟩ := hI
  obtain ⟨t1, t2, t3⟩ := hT
  have e9 : ((((C 0 9).toNat : Nat) : Int)).toNat = (C 0 9).toNat := by omega
  have n9 : (((C 0 9).toNat : Nat) : Int) = C 0 9 := by omega
  have n8 : (((C 0 8).toNat : Nat) : Int) = C 0 8 := by omega
  have ob9 : ob 1 (C 0 9).toNat ∧ bl (C 0 9).toNat = 1200 := by
    rcases t1 with ⟨-, q⟩ | ⟨-, q⟩
    · rw [q]; exact ob86
    · rw [q]; exact ob84
  have ob8 : ob 1 (C 0 8).toNat ∧ bl (C 0 8).toNat = 1200 := by
    rcases t1 with ⟨q, -⟩ | ⟨q, -⟩
    · rw [q]; exact ob84
    · rw [q]; exact ob86
  refine c_P_takeTape_0_ok he hS ?_
  unfold c_P_takeTape_0
  rw [e9, n9, n8]
  have S2 : SH (u2 (u2 C 0 8 (C 0 9)) 0 9 (C 0 8)) := SH_u2 (SH_u2 hS (by decide)) (by decide)
  obtain ⟨D1, -, -⟩ := DI_u2 (b := 0) (x := 8) (z := C 0 9) hD (by decide) (by decide) (fun q => absurd q (by decide)) (fun q => absurd q (by decide))
  obtain ⟨D2, -, -⟩ := DI_u2 (b := 0) (x := 9) (z := C 0 8) D1 (by decide) (by decide) (fun q => absurd q (by decide)) (fun q => absurd q (by decide))
  have o : ∀ b x, b ≠ 0 → (u2 (u2 C 0 8 (C 0 9)) 0 9 (C 0 8)) b x = C b x := fun b x hb => by rw [u2_bank hb, u2_bank hb]
  have o0 : ∀ x, x ≠ 8 → x ≠ 9 → (u2 (u2 C 0 8 (C 0 9)) 0 9 (C 0 8)) 0 x = C 0 x := fun x h8 h9 => by rw [u2_idx h9, u2_idx h8]
  have o8 : (u2 (u2 C 0 8 (C 0 9)) 0 9 (C 0 8)) 0 8 = C 0 9 := by rw [u2_idx (by decide), u2_same]
  have o9 : (u2 (u2 C 0 8 (C 0 9)) 0 9 (C 0 8)) 0 9 = C 0 8 := u2_same
  revert S2 D2 o o0 o8 o9
  generalize u2 (u2 C 0 8 (C 0 9)) 0 9 (C 0 8) = C2
  intro S2 D2 o o0 o8 o9
  have l9 := t3.1
  have ecu : cuB C2 (C 0 9).toNat 0 = u2 C2 (C 0 9).toNat 1 0 := by
    unfold cuB
    rw [if_pos ⟨Int.le_refl _, by rw [o _ _ (by omega)]; exact l9⟩]
  rw [ecu]
  obtain ⟨D3, -, -⟩ := DI_u2 (b := (C 0 9).toNat) (x := 1) (z := 0) D2 (by decide) (by omega) (fun q => by omega) (fun q => by omega)
  have S3 : SH (u2 C2 (C 0 9).toNat 1 0) := SH_u2 S2 (by decide)
  have f : ∀ b x, b ≠ 0 → b ≠ (C 0 9).toNat → (u2 C2 (C 0 9).toNat 1 0) b x = C b x := fun b x h0 h9 => by rw [u2_bank h9, o b x h0]
  have f0 : ∀ x, (u2 C2 (C 0 9).toNat 1 0) 0 x = C2 0 x := fun x => u2_bank (by omega)
  have fn : (u2 C2 (C 0 9).toNat 1 0) (C 0 9).toNat 1 = 0 := u2_same
  revert D3 S3 f f0 fn
  generalize u2 C2 (C 0 9).toNat 1 0 = C3
  intro D3 S3 f f0 fn
  refine ⟨ob9.1, by unfold bOK; rw [o _ _ (by omega)]; exact t3, ?_⟩
  refine k C3 (C 0 8).toNat ob8.1 ob8.2 (by rw [f0, o9, n8]) (by omega) (t2.fr (f _ _ (by omega) (by omega)) (fun i => f _ _ (by omega) (by omega))) (fun b x h0 hb => f b x h0 (by omega)) (fun B' g2 g => ?_)
  have gg : ∀ b y, (1 ≤ b ∧ b ≤ 11) ∨ b = 14 ∨ b = 50 ∨ b = 71 → b ≠ 1 → b ≠ 2 → B' b y = B b y := fun b y q => g b y q
  have e8 : C3 0 8 = C 0 9 := (f0 8).trans o8
  have e9' : C3 0 9 = C 0 8 := (f0 9).trans o9
  refine ⟨S3, D3, ⟨CKB_fr hK.1 (fun x => f _ _ (by decide) (by omega)), WtI_fr hK.2 (fun x => f _ _ (by decide) (by omega))⟩, ⟨by rw [e8, e9']; omega, ?_, ?_⟩, ?_, hF.fr (fun b x q => ?_) (fun b y q => gg b y (by omega) (by omega) (by omega)), ?_, hG.fr (fun x => f _ _ (by decide) (by omega)) (fun b y q => gg b y (by omega) (by omega) (by omega)), hX.fr (fun b x q => f _ _ (by omega) (by omega)) (fun b y q => gg b y (by omega) (by omega) (by omega)), hP.fr (fun b x q => f _ _ (by omega) (by omega)) (fun b y q => gg b y (by omega) (by omega) (by omega))⟩
  · rw [e8, g2]
    exact ⟨fn, ⟨Int.le_refl _, by rw [ob9.2]; decide⟩, fun i i0 i1 => by omega⟩
  · rw [e9']
    unfold bOK
    rw [f _ _ (by omega) (by omega)]
    exact t2.ok
  · unfold bOK
    rw [f _ _ (by decide) (by omega)]
    exact hO
  · rcases q with ⟨rfl, q⟩ | q
    · rw [f0, o0 x (by omega) (by omega)]
    · exact f b x (by omega) (by omega)
  · rw [f0, o0 12 (by decide) (by decide), gg 3 0 (by omega) (by decide) (by decide)]
    exact h12
end KH
