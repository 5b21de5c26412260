/-! THE CLASS'S CALLS: feed, end, text, group, found, count, word -/
section KC
variable {h1 : qH} {d : Nat} {Q : qO → qB → Prop} {C C' B B' : qB} {c0 s0 : Int}
theorem tp_ob (h : cT C B) : ob 1 (C 0 8).toNat ∧ bl (C 0 8).toNat = 1200 ∧ ((C 0 8).toNat = 84 ∨ (C 0 8).toNat = 86) := by
  rcases h.1 with ⟨q, -⟩ | ⟨q, -⟩
  · rw [q]; exact ⟨ob84.1, ob84.2, Or.inl rfl⟩
  · rw [q]; exact ⟨ob86.1, ob86.2, Or.inr rfl⟩
theorem fd_ob (h : cF C B) : ob 3 (C 0 10).toNat ∧ ((C 0 10).toNat = 108 ∨ (C 0 10).toNat = 110) := by
  rcases h.1 with ⟨q, -⟩ | ⟨q, -⟩
  · rw [q]; exact ⟨ob108, Or.inl rfl⟩
  · rw [q]; exact ⟨ob110, Or.inr rfl⟩
/-- the tape alone changes -/
theorem CI_tape (h : CIv c0 s0 C B) (hS : SH C') (f : ∀ b x, b ≠ (C 0 8).toNat → b ≠ (C 0 8).toNat + 1 → C' b x = C b x) (hB : BY C' (C 0 8).toNat (B' 2 0) (B' 1)) (g : ∀ b y, Pb b y → b ≠ 1 → b ≠ 2 → B' b y = B b y) : CIv c0 s0 C' B' := by
  obtain ⟨h1, h2, h3, h4, h5, h6, h9, h10, h11, h12⟩ := h
  have ht := (tp_ob h4).2.2
  have gg : ∀ b y, (1 ≤ b ∧ b ≤ 11) ∨ b = 14 ∨ b = 50 ∨ b = 71 → b ≠ 1 → b ≠ 2 → B' b y = B b y := fun b y q => g b y q
  have e8 := f 0 8 (by omega) (by omega)
  have e9 := f 0 9 (by omega) (by omega)
  have hh := h4.1
  refine ⟨hS, DI_lo h2 (fun b x _ _ => f b x (by omega) (by omega)), ⟨CKB_fr h3.1 (fun x => f _ _ (by omega) (by omega)), WtI_fr h3.2 (fun x => f _ _ (by omega) (by omega))⟩, ⟨by rw [e8, e9]; exact h4.1, by rw [e8]; exact hB, ?_⟩, ?_, h6.fr (fun b x q => f b x (by omega) (by omega)) (fun b y q => gg b y (by omega) (by omega) (by omega)), ?_, h10.fr (fun x => f _ _ (by omega) (by omega)) (fun b y q => gg b y (by omega) (by omega) (by omega)), h11.fr (fun b x q => f b x (by omega) (by omega)) (fun b y q => gg b y (by omega) (by omega) (by omega)), h12.fr (fun b x q => f b x (by omega) (by omega)) (fun b y q => gg b y (by omega) (by omega) (by omega))⟩
  · rw [e9]
    unfold bOK
    rw [f _ _ (by omega) (by omega)]
    exact h4.2.2
  · unfold bOK
    rw [f _ _ (by omega) (by omega)]
    exact h5
  · rw [f 0 12 (by omega) (by omega), gg 3 0 (by omega) (by decide) (by decide)]
    exact h9
/-- a text alone changes -/
theorem CI_text {t : Nat} (ht : t < 4) (h : CIv c0 s0 C B) (hS : SH C') (f : ∀ b x, b ≠ 75 + 2 * t → b ≠ 75 + 2 * t + 1 → C' b x = C b x) (hB : BY C' (75 + 2 * t) (B' 9 t) (txB B' t)) (g : ∀ b y, Pb b y → b ≠ 5 → b ≠ 9 → B' b y = B b y) (g9 : ∀ s : Int, s ≠ t → B' 9 s = B 9 s) (g5 : ∀ x, ¬ (1000 * (t : Int) ≤ x ∧ x < 1000 * (t : Int) + 1000) → B' 5 x = B 5 x) : CIv c0 s0 C' B' := by
  obtain ⟨h1, h2, h3, h4, h5, h6, h9, h10, h11, h12⟩ := h
  have hh := h4.1
  have gg : ∀ b y, (1 ≤ b ∧ b ≤ 11) ∨ b = 14 ∨ b = 50 ∨ b = 71 → b ≠ 5 → b ≠ 9 → B' b y = B b y := fun b y q => g b y q
  refine ⟨hS, DI_lo h2 (fun b x _ _ => f b x (by omega) (by omega)), ⟨CKB_fr h3.1 (fun x => f _ _ (by omega) (by omega)), WtI_fr h3.2 (fun x => f _ _ (by omega) (by omega))⟩, h4.fr (fun b x q => f b x (by omega) (by omega)) (gg 2 0 (by omega) (by decide) (by decide)) (fun y _ _ => gg 1 y (by omega) (by decide) (by decide)), ?_, h6.fr (fun b x q => f b x (by omega) (by omega)) (fun b y q => gg b y (by omega) (by omega) (by omega)), ?_, h10.fr (fun x => f _ _ (by omega) (by omega)) (fun b y q => gg b y (by omega) (by omega) (by omega)), fun s hs => ?_, h12.fr (fun b x q => f b x (by omega) (by omega)) (fun b y q => gg b y (by omega) (by omega) (by omega))⟩
  · unfold bOK
    rw [f _ _ (by omega) (by omega)]
    exact h5
  · rw [f 0 12 (by omega) (by omega), gg 3 0 (by omega) (by decide) (by decide)]
    exact h9
  · by_cases q : s = t
    · subst q; exact hB
    · have hs1 := h11 s hs
      have hb := hs1.2.1.2
      rw [(tx_ob hs).2] at hb
      rw [g9 (s : Int) (by omega)]
      refine (hs1.fr (f _ _ (by omega) (by omega)) (fun i => f _ _ (by omega) (by omega))).im (fun i i0 i1 => ?_)
      unfold txB
      exact g5 _ (by omega)
theorem K_end {x : Int} (hd : 2 ≤ d) (hI : CIv c0 s0 C B) (hc : c0 + 1 ≤ 900000000) (hx : R32 x)
    (k1 : ¬ (0 ≤ x ∧ x ≤ B 2 0) → ∀ C', (∀ B' : qB, (∀ b y, Pb b y → B' b y = B b y) → CIv (c0 + 1) (s0 + 6) C' B') → Q (.inr "java/lang/IllegalArgumentException") C')
    (k2 : 0 ≤ x → x ≤ B 2 0 → ∀ C', (∀ B' : qB, B' 2 0 = x → (∀ b y, Pb b y → b ≠ 2 → B' b y = B b y) → CIv c0 s0 C' B') → Q (.inl (some (iv x))) C') : qY h1 d n_P_end 0 [some (.ref 0), some (iv x)] [] C Q := by
  obtain ⟨d, rfl, he⟩ := d_pos hd
  have hT := hI.2.2.2.1
  have hb := hT.2.1
  obtain ⟨o1, o2, o3⟩ := tp_ob hT
  have hn := hb.2.1
  refine c_P_end_0_ok he hI.1 ?_
  unfold c_P_end_0
  rw [hb.1]
  refine ⟨hx, fun q => ⟨hI.2.1.ctr, k1 (by omega) _ (fun B' g => CI_th hI hc g)⟩, fun q => ⟨o1, ⟨by omega, by omega⟩, fun q1 => ⟨hb.ok, ?_⟩, fun q1 => ⟨hI.2.1.ctr, k1 (by omega) _ (fun B' g => CI_th hI hc g)⟩⟩⟩
  have ec : cuB C (C 0 8).toNat x = u2 C (C 0 8).toNat 1 x := by
    unfold cuB
    rw [hb.1, if_pos ⟨q, q1⟩]
  rw [ec]
  refine k2 q q1 _ (fun B' g2 g => CI_tape hI (SH_u2 hI.1 (by decide)) (fun b x q _ => u2_bank q) ?_ (fun b y p q _ => g b y p (by omega)))
  have g1 : ∀ y, B' 1 y = B 1 y := fun y => g 1 y (by unfold Pb; omega) (by decide)
  rw [g2]
  refine ⟨u2_same, ⟨q, by omega⟩, fun i i0 i1 => ?_⟩
  rw [u2_bank (by omega), g1]
  exact hb.2.2 i i0 (by omega)
theorem K_fint {x n : Int} {F : Int → Int} {C0 : qB} {tp : Nat} (htp : ob 1 tp ∧ bl tp = 1200 ∧ (tp = 84 ∨ tp = 86)) (hn : 0 ≤ n ∧ n + 4 ≤ 1200) (h8 : C0 0 8 = ((tp : Nat) : Int)) (hF : ∀ j, 0 ≤ j → j < 4 → F (n + j) = byt x (24 - 8 * j))
    (k : ∀ C', SH C' → (∀ b y, b ≠ tp → b ≠ tp + 1 → C' b y = C0 b y) → BY C' tp (n + 4) F → Q (.inl none) C') : ∀ (N : Nat) (j : Int) (C : qB), (4 - j).toNat < N → 0 ≤ j → j ≤ 4 → SH C → (∀ b y, b ≠ tp → b ≠ tp + 1 → C b y = C0 b y) → BY C tp (n + j) F → qY h1 (d + 2) n_P_feedInt 3 [some (.ref 0), some (iv x), some (iv (24 - 8 * j))] [] C Q := by
  intro N
  induction N with
  | zero => intro j C h; exact absurd h (Nat.not_lt_zero _)
  | succ N ih =>
    intro j C hN j0 j4 hS hf hB
    have e8 : (C 0 8).toNat = tp := by rw [hf 0 8 (by omega) (by omega), h8]; omega
    refine c_P_feedInt_3_ok (by omega) hS ?_
    unfold c_P_feedInt_3
    rw [e8]
    refine ⟨⟨by omega, by omega⟩, fun q => ?_, fun q => ⟨htp.1, hB.ok, ?_⟩⟩
    · have : j = 4 := by omega
      subst this
      exact k C hS hf hB
    · have en : (((24 - 8 * j).toNat : Nat) : Int) = 24 - 8 * j := by omega
      have e1 : F (n + j) = iAnd (iUshr x (24 - 8 * j)) 255 := by
        rw [hF j j0 (by omega), ← en, ← byt_nB x _ (by omega), and_nB]
      obtain ⟨-, a2, a3⟩ := hB.add (v := iUshr x (24 - 8 * j)) (by omega) e1
      have e2 : 24 - 8 * j + -8 = 24 - 8 * (j + 1) := by omega
      rw [e2]
      exact ih (j + 1) _ (by omega) (by omega) (by omega) (S_By_add hS htp.1 hB.ok) (fun b y q1 q2 => by rw [a3 b y q1 q2]; exact hf b y q1 q2) (by rw [show n + (j + 1) = n + j + 1 by omega]; exact a2)
theorem K_fint0 {x n : Int} {F : Int → Int} {tp : Nat} (hd : 3 ≤ d) (hS : SH C) (htp : ob 1 tp ∧ bl tp = 1200 ∧ (tp = 84 ∨ tp = 86)) (hn : 0 ≤ n ∧ n + 4 ≤ 1200) (h8 : C 0 8 = ((tp : Nat) : Int)) (hF : ∀ j, 0 ≤ j → j < 4 → F (n + j) = byt x (24 - 8 * j)) (hB : BY C tp n F)
    (k : ∀ C', SH C' → (∀ b y, b ≠ tp → b ≠ tp + 1 → C' b y = C b y) → BY C' tp (n + 4) F → Q (.inl none) C') : qY h1 d n_P_feedInt 0 [some (.ref 0), some (iv x), none] [] C Q := by
  obtain ⟨d, rfl⟩ : ∃ e, d = e + 2 := ⟨d - 2, by omega⟩
  refine c_P_feedInt_0_ok (by omega) hS ?_
  unfold c_P_feedInt_0
  exact K_fint (C0 := C) htp hn h8 hF k 5 0 C (by decide) (Int.le_refl _) (by decide) hS (fun _ _ _ _ => rfl) (by rw [Int.add_zero]; exact hB)
theorem K_feed {x1 x2 x3 x4 x5 : Int} (hd : 4 ≤ d) (hI : CIv c0 s0 C B) (hc : c0 + 1 ≤ 900000000)
    (k1 : ¬ B 2 0 + 20 ≤ 1200 → ∀ C', (∀ B' : qB, (∀ b y, Pb b y → B' b y = B b y) → CIv (c0 + 1) (s0 + 6) C' B') → Q (.inr "java/lang/IndexOutOfBoundsException") C')
    (k2 : B 2 0 + 20 ≤ 1200 → ∀ C', (∀ B' : qB, B' 2 0 = B 2 0 + 20 → (∀ b y, Pb b y → b ≠ 1 → b ≠ 2 → B' b y = B b y) → (∀ i, i < B 2 0 → B' 1 i = B 1 i) → (∀ j, 0 ≤ j → j < 20 → B' 1 (B 2 0 + j) = byt (fa x1 x2 x3 x4 x5 j) (24 - 8 * (j % 4))) → CIv c0 s0 C' B') → Q (.inl (some (iv (B 2 0 + 20)))) C') : qY h1 d n_P_feed 0 [some (.ref 0), some (iv x1), some (iv x2), some (iv x3), some (iv x4), some (iv x5)] [] C Q := by
  obtain ⟨d, rfl, he⟩ := d_pos hd
  have hT := hI.2.2.2.1
  have hb := hT.2.1
  have ho := tp_ob hT
  obtain ⟨o1, o2, o3⟩ := tp_ob hT
  have hn := hb.2.1
  have n8 : C 0 8 = (((C 0 8).toNat : Nat) : Int) := by have := hT.1; omega
  generalize htp : (C 0 8).toNat = tp at *
  refine c_P_feed_0_ok (by omega) hI.1 ?_
  unfold c_P_feed_0
  rw [htp, hb.1, o2]
  refine ⟨o1, ⟨by omega, by omega⟩, fun q => ?_, fun q => ⟨hI.2.1.ctr, k1 (by omega) _ (fun B' g => CI_th hI hc g)⟩⟩
  have hB0 : BY C tp (B 2 0) (fun i => if i < B 2 0 then B 1 i else byt (fa x1 x2 x3 x4 x5 (i - B 2 0)) (24 - 8 * ((i - B 2 0) % 4))) := hb.im (fun i i0 i1 => if_pos i1)
  have hF : ∀ (m : Int) (x : Int), (∀ j, 0 ≤ j → j < 4 → fa x1 x2 x3 x4 x5 (4 * m + j) = x) → 0 ≤ m → ∀ j, 0 ≤ j → j < 4 → (fun i => if i < B 2 0 then B 1 i else byt (fa x1 x2 x3 x4 x5 (i - B 2 0)) (24 - 8 * ((i - B 2 0) % 4))) (B 2 0 + 4 * m + j) = byt x (24 - 8 * j) := by
    intro m x hm m0 j j0 j1
    try dsimp only
    rw [if_neg (by omega), show B 2 0 + 4 * m + j - B 2 0 = 4 * m + j by omega, hm j j0 j1, show (4 * m + j) % 4 = j by omega]
  have key : ∀ C', BY C' tp (B 2 0 + 20) (fun i => if i < B 2 0 then B 1 i else byt (fa x1 x2 x3 x4 x5 (i - B 2 0)) (24 - 8 * ((i - B 2 0) % 4))) → SH C' → (∀ b y, b ≠ tp → b ≠ tp + 1 → C' b y = C b y) → Q (.inl (some (iv (B 2 0 + 20)))) C' := by
    intro C' w1 w2 w3
    refine k2 (by omega) C' (fun B' g2 g gl gr => CI_tape hI w2 (by rw [htp]; exact w3) ?_ g)
    rw [htp, g2]
    refine w1.im (fun i i0 i1 => ?_)
    try dsimp only
    by_cases z : i < B 2 0
    · rw [if_pos z]; exact gl i z
    · rw [if_neg z, ← gr (i - B 2 0) (by omega) (by omega), show B 2 0 + (i - B 2 0) = i by omega]
  generalize (fun i => if i < B 2 0 then B 1 i else byt (fa x1 x2 x3 x4 x5 (i - B 2 0)) (24 - 8 * ((i - B 2 0) % 4))) = F at *
  refine K_fint0 (n := B 2 0) (by omega) hI.1 ho (by omega) n8 (fun j j0 j1 => by have := hF 0 x1 (fun j j0 j1 => by unfold fa; rw [if_pos (by omega)]) (by decide) j j0 j1; rw [show B 2 0 + 4 * 0 + j = B 2 0 + j by omega] at this; exact this) hB0 (fun C1 s1 f1 b1 => ⟨rfl, s1, ?_⟩)
  unfold c_P_feed_27
  refine K_fint0 (n := B 2 0 + 4) (by omega) s1 ho (by omega) (by rw [f1 0 8 (by omega) (by omega)]; exact n8) (fun j j0 j1 => by have := hF 1 x2 (fun j j0 j1 => by unfold fa; rw [if_neg (by omega), if_pos (by omega)]) (by decide) j j0 j1; rw [show B 2 0 + 4 * 1 + j = B 2 0 + 4 + j by omega] at this; exact this) b1 (fun C2 s2 f2 b2 => ⟨rfl, s2, ?_⟩)
  unfold c_P_feed_32
  refine K_fint0 (n := B 2 0 + 4 + 4) (by omega) s2 ho (by omega) (by rw [f2 0 8 (by omega) (by omega), f1 0 8 (by omega) (by omega)]; exact n8) (fun j j0 j1 => by have := hF 2 x3 (fun j j0 j1 => by unfold fa; rw [if_neg (by omega), if_neg (by omega), if_pos (by omega)]) (by decide) j j0 j1; rw [show B 2 0 + 4 * 2 + j = B 2 0 + 4 + 4 + j by omega] at this; exact this) b2 (fun C3 s3 f3 b3 => ⟨rfl, s3, ?_⟩)
  unfold c_P_feed_37
  refine K_fint0 (n := B 2 0 + 4 + 4 + 4) (by omega) s3 ho (by omega) (by rw [f3 0 8 (by omega) (by omega), f2 0 8 (by omega) (by omega), f1 0 8 (by omega) (by omega)]; exact n8) (fun j j0 j1 => by have := hF 3 x4 (fun j j0 j1 => by unfold fa; rw [if_neg (by omega), if_neg (by omega), if_neg (by omega), if_pos (by omega)]) (by decide) j j0 j1; rw [show B 2 0 + 4 * 3 + j = B 2 0 + 4 + 4 + 4 + j by omega] at this; exact this) b3 (fun C4 s4 f4 b4 => ⟨rfl, s4, ?_⟩)
  unfold c_P_feed_43
  refine K_fint0 (n := B 2 0 + 4 + 4 + 4 + 4) (by omega) s4 ho (by omega) (by rw [f4 0 8 (by omega) (by omega), f3 0 8 (by omega) (by omega), f2 0 8 (by omega) (by omega), f1 0 8 (by omega) (by omega)]; exact n8) (fun j j0 j1 => by have := hF 4 x5 (fun j j0 j1 => by unfold fa; rw [if_neg (by omega), if_neg (by omega), if_neg (by omega), if_neg (by omega)]) (by decide) j j0 j1; rw [show B 2 0 + 4 * 4 + j = B 2 0 + 4 + 4 + 4 + 4 + j by omega] at this; exact this) b4 (fun C5 s5 f5 b5 => ⟨rfl, s5, ?_⟩)
  unfold c_P_feed_49
  have ff : ∀ b y, b ≠ tp → b ≠ tp + 1 → C5 b y = C b y := fun b y q1 q2 => by rw [f5 b y q1 q2, f4 b y q1 q2, f3 b y q1 q2, f2 b y q1 q2, f1 b y q1 q2]
  have e8 : (C5 0 8).toNat = tp := by rw [ff 0 8 (by omega) (by omega), n8]; omega
  rw [show B 2 0 + 4 + 4 + 4 + 4 + 4 = B 2 0 + 20 by omega] at b5
  rw [e8, b5.1]
  exact ⟨o1, key C5 b5 s5 ff⟩
theorem K_group {x y : Int} (hd : 2 ≤ d) (hI : CIv c0 s0 C B) (hc : c0 + 1 ≤ 900000000) (hx : R32 x) (hy : R32 y)
    (k1 : ¬ ((0 ≤ x ∧ x ≤ 9) ∧ 0 ≤ y ∧ y ≤ 1) → ∀ C', (∀ B' : qB, (∀ b y, Pb b y → B' b y = B b y) → CIv (c0 + 1) (s0 + 6) C' B') → Q (.inr "java/lang/IllegalArgumentException") C')
    (k2 : (0 ≤ x ∧ x ≤ 9) → (0 ≤ y ∧ y ≤ 1) → Q (.inl (some (iv (if B 71 0 = 0 then -1 else B 50 (2 * x + y))))) C) : qY h1 d n_P_group 0 [some (.ref 0), some (iv x), some (iv y), none] [] C Q := by
  obtain ⟨d, rfl, he⟩ := d_pos hd
  refine c_P_group_0_ok (by omega) hI.1 ?_
  unfold c_P_group_0
  refine ⟨hx, fun q => ⟨hI.2.1.ctr, k1 (by omega) _ (fun B' g => CI_th hI hc g)⟩, fun q => ⟨fun q1 => ?_, fun q1 => ⟨hI.2.1.ctr, k1 (by omega) _ (fun B' g => CI_th hI hc g)⟩⟩⟩
  refine K_part (by omega) hI.1 hI.2.1 hy (fun q2 => Or.inr ⟨_, rfl, k1 (by omega) _ (fun B' g => CI_th hI hc g)⟩) (fun q2 q3 => Or.inl ⟨rfl, hI.1, ?_⟩)
  unfold c_P_group_24
  refine ⟨⟨by omega, by omega⟩, fun q4 => by omega, fun q4 => ⟨fun q5 => by omega, fun q5 => ⟨q4, q5, ?_⟩⟩⟩
  rw [hI.2.2.2.2.2.2.2.1 (2 * x + y) q4 q5]
  exact k2 ⟨by omega, by omega⟩ ⟨q2, q3⟩
theorem K_found {x y : Int} (hd : 3 ≤ d) (hI : CIv c0 s0 C B) (hc : c0 + 1 ≤ 900000000) (hx : R32 x) (hy : R32 y)
    (k1 : ¬ (0 ≤ y ∧ y ≤ 1) → ∀ C', (∀ B' : qB, (∀ b y, Pb b y → B' b y = B b y) → CIv (c0 + 1) (s0 + 6) C' B') → Q (.inr "java/lang/IllegalArgumentException") C')
    (k2 : (0 ≤ y ∧ y ≤ 1) → ¬ (0 ≤ x ∧ x < B 14 0) → ∀ C', (∀ B' : qB, (∀ b y, Pb b y → B' b y = B b y) → CIv (c0 + 1) (s0 + 6) C' B') → Q (.inr "java/lang/IndexOutOfBoundsException") C')
    (k3 : (0 ≤ y ∧ y ≤ 1) → (0 ≤ x ∧ x < B 14 0) → Q (.inl (some (iv (if y = 0 then B 10 x else B 11 x)))) C) : qY h1 d n_P_found 0 [some (.ref 0), some (iv x), some (iv y)] [] C Q := by
  obtain ⟨d, rfl, he⟩ := d_pos hd
  have hF := hI.2.2.2.2.2.1
  obtain ⟨o1, o2⟩ := fd_ob hF
  have hO := hF.2
  have hn := hO.2.1
  refine c_P_found_0_ok (by omega) hI.1 ?_
  unfold c_P_found_0
  refine K_part (by omega) hI.1 hI.2.1 hy (fun q => Or.inr ⟨_, rfl, k1 q _ (fun B' g => CI_th hI hc g)⟩) (fun q0 q1 => Or.inl ⟨rfl, hI.1, ?_⟩)
  unfold c_P_found_4
  rw [hO.1]
  refine ⟨hx, fun q => ⟨hI.2.1.ctr, k2 ⟨q0, q1⟩ (by omega) _ (fun B' g => CI_th hI hc g)⟩, fun q => ⟨o1, ⟨by omega, by omega⟩, fun q2 => ⟨by omega, by omega, ?_⟩, fun q2 => ⟨hI.2.1.ctr, k2 ⟨q0, q1⟩ (by omega) _ (fun B' g => CI_th hI hc g)⟩⟩⟩
  have hr := hO.2.2 x (by omega) q2
  have := k3 ⟨q0, q1⟩ ⟨by omega, q2⟩
  by_cases z : y = 0
  · subst z
    rw [show 2 * x + 0 = 2 * x by omega, hr.1]
    exact this
  · have : y = 1 := by omega
    subst this
    rw [hr.2]
    exact k3 ⟨q0, q1⟩ ⟨by omega, q2⟩
theorem K_count {x : Int} (hd : 2 ≤ d) (hI : CIv c0 s0 C B) (hO : OI B) (hc : c0 + 1 ≤ 900000000) (hx : R32 x)
    (k1 : ¬ ((0 ≤ x ∧ x ≤ 2) ∨ (10 ≤ x ∧ x ≤ 17) ∨ (20 ≤ x ∧ x ≤ 23) ∨ (30 ≤ x ∧ x ≤ 37)) → ∀ C', (∀ B' : qB, (∀ b y, Pb b y → B' b y = B b y) → CIv (c0 + 1) (s0 + 6) C' B') → Q (.inr "java/lang/IllegalArgumentException") C')
    (k2 : ((0 ≤ x ∧ x ≤ 2) ∨ (10 ≤ x ∧ x ≤ 17) ∨ (20 ≤ x ∧ x ≤ 23) ∨ (30 ≤ x ∧ x ≤ 37)) → Q (.inl (some (iv (if x = 0 then B 2 0 else if x = 1 then B 3 0 else if x = 2 then B 14 0 else if x < 20 then (if B 6 (x - 10) = 0 then -1 else B 7 (x - 10)) else if x < 30 then B 9 (x - 20) else if B 6 (x - 30) = 0 then -1 else B 8 (x - 30))))) C) : qY h1 d n_P_count 0 [some (.ref 0), some (iv x)] [] C Q := by
  obtain ⟨d, rfl, he⟩ := d_pos hd
  have th : ¬ ((0 ≤ x ∧ x ≤ 2) ∨ (10 ≤ x ∧ x ≤ 17) ∨ (20 ≤ x ∧ x ≤ 23) ∨ (30 ≤ x ∧ x ≤ 37)) → (C 2000000000 (-1) = 0 ∧ 0 ≤ C 2000000000 0 ∧ 0 ≤ C 2000000000 1) ∧ Q (.inr "java/lang/IllegalArgumentException") (thC C) := fun q => ⟨hI.2.1.ctr, k1 q _ (fun B' g => CI_th hI hc g)⟩
  have c83 : (x < 10 ∨ 18 ≤ x) → ¬ x = 0 → ¬ x = 1 → ¬ x = 2 → (x < 20 ∨ 24 ≤ x) → c_P_count_83 h1 d x C Q := by
    intro w1 w2 w3 w4 w5
    unfold c_P_count_83
    refine ⟨hx, fun q => th (by omega), fun q => ⟨fun q1 => th (by omega), fun q1 => ?_⟩⟩
    refine K_prog (by omega) hI.1 hI.2.1 ⟨by omega, by omega⟩ (fun q2 => by omega) (fun q2 q3 => Or.inl ⟨_, rfl, pa_ob (by omega), hI.1, ?_⟩)
    unfold c_P_count_103
    have := k2 (by omega)
    rw [if_neg w2, if_neg w3, if_neg w4, if_neg (by omega), if_neg (by omega)] at this
    have hP := hI.2.2.2.2.2.2.2.2.2 (x - 30).toNat (by omega)
    unfold PG at hP
    rw [show (((x - 30).toNat : Nat) : Int) = x - 30 by omega] at hP
    by_cases z : B 6 (x - 30) = 0
    · rw [if_pos z] at this
      rw [(hP.1 z).2]
      exact this
    · rw [if_neg z] at this
      rw [(hP.2 z).1.2.2.2.2.2.2.1]
      exact this
  have c59 : (x < 10 ∨ 18 ≤ x) → ¬ x = 0 → ¬ x = 1 → ¬ x = 2 → c_P_count_59 h1 d x C Q := by
    intro w1 w2 w3 w4
    unfold c_P_count_59
    refine ⟨hx, fun q => c83 w1 w2 w3 w4 (by omega), fun q => ⟨fun q1 => c83 w1 w2 w3 w4 (by omega), fun q1 => ?_⟩⟩
    refine K_text (by omega) hI.1 hI.2.1 ⟨by omega, by omega⟩ (fun q2 => by omega) (fun q2 q3 => Or.inl ⟨_, rfl, (tx_ob (by omega)).1, hI.1, ?_⟩)
    unfold c_P_count_79
    have := k2 (by omega)
    rw [if_neg w2, if_neg w3, if_neg w4, if_neg (by omega), if_pos (by omega)] at this
    have hX := hI.2.2.2.2.2.2.2.2.1 (x - 20).toNat (by omega)
    rw [show (((x - 20).toNat : Nat) : Int) = x - 20 by omega] at hX
    rw [hX.1]
    exact this
  refine c_P_count_0_ok (by omega) hI.1 ?_
  unfold c_P_count_0
  refine ⟨hx, fun w2 => ⟨fun w3 => ⟨fun w4 => ⟨fun q => c59 (by omega) w2 w3 w4, fun q => ⟨fun q1 => c59 (by omega) w2 w3 w4, fun q1 => ?_⟩⟩, fun w4 => ?_⟩, fun w3 => ?_⟩, fun w2 => ?_⟩
  · refine K_prog (by omega) hI.1 hI.2.1 ⟨by omega, by omega⟩ (fun q2 => by omega) (fun q2 q3 => Or.inl ⟨_, rfl, pa_ob (by omega), hI.1, ?_⟩)
    unfold c_P_count_55
    have := k2 (by omega)
    rw [if_neg w2, if_neg w3, if_neg w4, if_pos (by omega)] at this
    have hP := hI.2.2.2.2.2.2.2.2.2 (x - 10).toNat (by omega)
    unfold PG at hP
    rw [show (((x - 10).toNat : Nat) : Int) = x - 10 by omega] at hP
    by_cases z : B 6 (x - 10) = 0
    · rw [if_pos z] at this
      rw [(hP.1 z).1]
      exact this
    · rw [if_neg z] at this
      have h6 := hO.2.2.2.1 (x - 10) (by omega) (by omega)
      rw [(hP.2 z).1.2.2.2.2.2.1, ← (h6.2.2 (by omega)).2.1]
      exact this
  · have := k2 (by omega)
    rw [if_neg w2, if_neg w3, if_pos w4] at this
    rw [hI.2.2.2.2.2.1.2.1]
    exact ⟨(fd_ob hI.2.2.2.2.2.1).1, this⟩
  · have := k2 (by omega)
    rw [if_neg w2, if_pos w3] at this
    rw [hI.2.2.2.2.2.2.1]
    exact this
  · have := k2 (by omega)
    rw [if_pos w2] at this
    rw [hI.2.2.2.1.2.1.1]
    exact ⟨(tp_ob hI.2.2.2.1).1, this⟩
theorem K_word {t i : Int} (hd : 2 ≤ d) (hI : CIv c0 s0 C B) (hO : OI B) (hc : c0 + 1 ≤ 900000000) (ht : R32 t) (hi : R32 i)
    (k1 : ¬ (0 ≤ t ∧ t ≤ 3) → ∀ C', (∀ B' : qB, (∀ b y, Pb b y → B' b y = B b y) → CIv (c0 + 1) (s0 + 6) C' B') → Q (.inr "java/lang/IllegalArgumentException") C')
    (k2 : (0 ≤ t ∧ t ≤ 3) → ¬ (0 ≤ i ∧ i < B 9 t) → ∀ C', (∀ B' : qB, (∀ b y, Pb b y → B' b y = B b y) → CIv (c0 + 1) (s0 + 6) C' B') → Q (.inr "java/lang/IndexOutOfBoundsException") C')
    (k3 : (0 ≤ t ∧ t ≤ 3) → (0 ≤ i ∧ i < B 9 t) → Q (.inl (some (wv (wds (fun k => B 5 (1000 * t + k)) (B 9 t) 8 i 0)))) C) : qY h1 d n_P_word 0 [some (.ref 0), some (iv t), some (iv i), none, none, none, none] [] C Q := by
  obtain ⟨d, rfl, he⟩ := d_pos hd
  refine c_P_word_0_ok (by omega) hI.1 ?_
  unfold c_P_word_0
  refine K_text (by omega) hI.1 hI.2.1 ht (fun q => Or.inr ⟨_, rfl, k1 q _ (fun B' g => CI_th hI hc g)⟩) (fun q0 q1 => Or.inl ⟨_, rfl, (tx_ob (by omega)).1, hI.1, ?_⟩)
  have hX := hI.2.2.2.2.2.2.2.2.1 t.toNat (by omega)
  have oT := (tx_ob (t := t.toNat) (by omega)).1
  have en : ((t.toNat : Nat) : Int) = t := by omega
  rw [en] at hX
  have hn := hX.2.1
  rw [(tx_ob (t := t.toNat) (by omega)).2] at hn
  unfold c_P_word_5
  rw [hX.1]
  refine ⟨hi, fun q => ⟨hI.2.1.ctr, k2 ⟨q0, q1⟩ (by omega) _ (fun B' g => CI_th hI hc g)⟩, fun q => ⟨⟨by omega, by omega⟩, fun q2 => ?_, fun q2 => ⟨hI.2.1.ctr, k2 ⟨q0, q1⟩ (by omega) _ (fun B' g => CI_th hI hc g)⟩⟩⟩
  have main : ∀ (N : Nat) (k v : Int), k + N = 8 → 0 ≤ k → wds (fun k => B 5 (1000 * t + k)) (B 9 t) N (i + k) v = wds (fun k => B 5 (1000 * t + k)) (B 9 t) 8 i 0 → qY h1 (d + 1) n_P_word 34 [none, none, some (iv i), some (.ref (75 + 2 * t.toNat)), some (wv v), none, some (iv k)] [] C Q := by
    intro N
    induction N with
    | zero =>
      intro k v hk k0 hw
      have : k = 8 := by omega
      subst this
      refine c_P_word_34_ok (by omega) hI.1 oT ?_
      unfold c_P_word_34
      refine ⟨⟨by decide, by decide⟩, fun _ => ?_, fun q => by omega⟩
      have := k3 ⟨q0, q1⟩ ⟨by omega, q2⟩
      rw [← hw] at this
      exact this
    | succ N ih =>
      intro k v hk k0 hw
      refine c_P_word_34_ok (by omega) hI.1 oT ?_
      unfold c_P_word_34
      have hby := byA_bd C (75 + 2 * t.toNat) (i + k)
      refine ⟨⟨by omega, by omega⟩, fun q => by omega, fun q => ⟨hX.ok, ⟨by omega, by omega⟩, ⟨by omega, by omega⟩, ⟨by omega, by omega⟩, ?_⟩⟩
      refine ih (k + 1) _ (by omega) (by omega) ?_
      rw [← hw]
      show _ = wds (fun k => B 5 (1000 * t + k)) (B 9 t) N (i + k + 1) (lOr (lShl v 8) (if i + k < B 9 t then B 5 (1000 * t + (i + k)) else 0))
      have e : max 0 (byA C (75 + 2 * t.toNat) (i + k)) = (if i + k < B 9 t then B 5 (1000 * t + (i + k)) else 0) := by
        by_cases z : i + k < B 9 t
        · rw [if_pos z]
          have e1 := hX.at (i := i + k) (by omega) z
          have : txB B t (i + k) = B 5 (1000 * t + (i + k)) := rfl
          have h5 := hO.2.2.2.2.1 (1000 * t + (i + k)) (by omega) (by omega)
          omega
        · rw [if_neg z, hX.out (by omega)]
          rfl
      rw [e, show i + (k + 1) = i + k + 1 by omega]
  exact main 8 0 0 (by decide) (Int.le_refl _) (by rw [Int.add_zero])
theorem K_textc {t : Int} (hd : 4 ≤ d) (hI : CIv c0 s0 C B) (hc : c0 + 1 ≤ 900000000) (ht : R32 t)
    (k1 : ¬ (0 ≤ t ∧ t ≤ 3) → ∀ C', (∀ B' : qB, (∀ b y, Pb b y → b ≠ 2 → B' b y = B b y) → B' 2 0 = 0 → CIv (c0 + 1) (s0 + 6) C' B') → Q (.inr "java/lang/IllegalArgumentException") C')
    (k2 : (0 ≤ t ∧ t ≤ 3) → 1000 < B 2 0 → ∀ C', (∀ B' : qB, (∀ b y, Pb b y → b ≠ 2 → B' b y = B b y) → B' 2 0 = 0 → CIv (c0 + 1) (s0 + 6) C' B') → Q (.inr "java/lang/IndexOutOfBoundsException") C')
    (k3 : (0 ≤ t ∧ t ≤ 3) → B 2 0 ≤ 1000 → ∀ C', (∀ B' : qB, B' 2 0 = 0 → (∀ b y, Pb b y → b ≠ 2 → b ≠ 5 → b ≠ 9 → B' b y = B b y) → B' 9 t = B 2 0 → (∀ s, s ≠ t → B' 9 s = B 9 s) → (∀ i, 0 ≤ i → i < B 2 0 → B' 5 (1000 * t + i) = B 1 i) → (∀ x, ¬ (1000 * t ≤ x ∧ x < 1000 * t + B 2 0) → B' 5 x = B 5 x) → CIv c0 s0 C' B') → Q (.inl (some (iv (B 2 0)))) C') : qY h1 d n_P_text 0 [some (.ref 0), some (iv t), none, none] [] C Q := by
  obtain ⟨d, rfl, he⟩ := d_pos hd
  refine c_P_text_0_ok (by omega) hI.1 ?_
  unfold c_P_text_0
  refine K_take (by omega) hI (fun C1 src a1 a2 a3 a4 a5 a6 a7 => ?_)
  have I1 := a7 (u2 B 2 0 0) u2_same (fun b y _ _ q => u2_bank q)
  refine ⟨src, rfl, a1, I1.1, ?_⟩
  unfold c_P_text_4
  have thr : ∀ B', (∀ b y, Pb b y → b ≠ 2 → B' b y = B b y) → B' 2 0 = 0 → CIv (c0 + 1) (s0 + 6) (thC C1) B' := fun B' g g2 => CI_th (a7 B' g2 (fun b y p _ q => g b y p q)) hc (fun _ _ _ => rfl)
  refine K_text (by omega) I1.1 I1.2.1 ht (fun q => Or.inr ⟨_, rfl, k1 q _ thr⟩) (fun q0 q1 => Or.inl ⟨_, rfl, (tx_ob (by omega)).1, I1.1, ?_⟩)
  have hs := a5.2.1
  have en : ((t.toNat : Nat) : Int) = t := by omega
  have oT := tx_ob (t := t.toNat) (by omega)
  unfold c_P_text_10
  rw [a5.1]
  refine ⟨⟨by omega, by omega⟩, fun q => ?_, fun q => ⟨I1.2.1.ctr, k2 ⟨q0, q1⟩ (by omega) _ thr⟩⟩
  refine K_copy (by omega) I1.1 oT.1 a1 (by omega) a5 (by omega) (fun C2 s2 f2 b2' => ⟨rfl, s2, ?_⟩)
  unfold c_P_text_36
  rw [b2'.1]
  refine k3 ⟨q0, q1⟩ q C2 (fun B' g2 g g9 g9' g5 g5' => ?_)
  have I2 := a7 (fun b y => if b = 2 then B' 2 y else B b y) (by (try dsimp only); rw [if_pos rfl]; exact g2) (fun b y _ _ q => if_neg q)
  refine CI_text (t := t.toNat) (by omega) I2 s2 f2 ?_ (fun b y p q5 q9 => ?_) (fun s q => ?_) (fun x q => ?_)
  · rw [en, g9]
    exact b2'.im (fun i i0 i1 => g5 i i0 i1)
  · try dsimp only
    by_cases z : b = 2
    · subst z; rw [if_pos rfl]
    · rw [if_neg z]
      exact g b y p z q5 q9
  · try dsimp only
    rw [if_neg (by decide)]
    exact g9' s (by omega)
  · try dsimp only
    rw [if_neg (by decide)]
    exact g5' x (by omega)
end KC
