/-! THE CLASS'S BUILDER: parts, rounds, all -/
theorem LyIt_snoc {R : Int → Int → Prop} : ∀ (k : Nat) (s t n : Int), LyIt R k s t → R t n → LyIt R (k + 1) s n := by
  intro k
  induction k with
  | zero => intro s t n h1 h2; have h1 : s = t := h1; subst h1; exact ⟨n, h2, rfl⟩
  | succ k ih =>
    intro s t n h1 h2
    obtain ⟨u, g1, g2⟩ := h1
    exact ⟨u, g1, ih u t n g2 h2⟩
section BD3
variable {h1 : qH} {d : Nat} {Q : qO → qB → Prop} {a : Nat} {B : qB} {I : Int → Int} {H : Int → Nat → Option Bool} {M N q nx dp lv lvl : Int} {e x : qT}
/-- a step alone -/
theorem Q_add {k v : Int} (hC : BuC a B H M N e lvl dp) (hs : B a 7 + 1 ≤ 608) (hk : R32 k) (hst : stc e = 1) (hsp : spc e = 0) (hsk : skd k = 0) (hL : ∀ (P : qP) (N : Int), P 1 (B a 7) = k → P 2 (B a 7) = v → P 3 (B a 7) = nx → P 5 (B a 7) = dp → P 7 (B a 7) = lv → B a 7 < N → Ly P H (B a 7) N e lv 0 (B a 7) nx dp 0) (kk : BuK a B I H e lv 0 nx dp 0 Q) : ob 5 ((B 101 1).toNat) ∧ 0 ≤ B ((B 101 1).toNat) 7 ∧ B ((B 101 1).toNat) 7 < 608 ∧ Q (.inl (some (iv (B ((B 101 1).toNat) 7)))) (paC B ((B 101 1).toNat) k v nx dp) := by
  have g4 := hC.1.2.2.2.1
  rw [toN hC.1]
  refine ⟨hC.1.2.1, by omega, by omega, ?_⟩
  have e7 : paC B a k v nx dp a 7 = B a 7 + 1 := by rw [paC_a, if_pos rfl]
  have e8 : paC B a k v nx dp a 8 = B a 8 := by rw [paC_a, if_neg (by decide), if_pos rfl, hsk]; omega
  have p1 := pv_add (a := a) (B := B) (k := k) (v := v) (n := nx) (e := dp) (I := I) (lv := lv)
  exact kk _ _ _ (BE_add (by omega)) (BSt_add hC.1 (by omega) hk) (by rw [e7, hst, if_neg (by decide)]; omega) (by rw [e8, hsp, if_neg (by decide)]; omega) (hL _ _ p1.1 p1.2.1 p1.2.2.1 p1.2.2.2.2.1 p1.2.2.2.2.2 (by rw [e7]; omega))
/-- l rounds -/
theorem L_least {l p : Int} (hP : BuPart h1 x) (hx : atm x = true) (hl : l ≤ 1000) (hp0 : 0 ≤ p ∧ p < 408) : ∀ (n : Nat) (d : Nat) (Q : qO → qB → Prop) (B : qB) (I : Int → Int) (nx cnt : Int), 10 + 8 * bkd x ≤ d → BuC a B H M N x lvl dp → cnt + n = l → 0 ≤ cnt → B 95 p = l → Nd B M x N 2 (B 93 p) → B a 7 + n * stc x ≤ 608 →
    (∀ B' I' v, BE a B B' I I' → BSt B' a → B' a 7 = B a 7 + n * stc x → B' a 8 = B a 8 + n * spc x → LyIt (fun s n => Ly (pvw B' a I') H (B a 7) (B' a 7) x lv 0 s n dp 0) n v nx → Q (.inl (some (iv v))) B') → qY h1 (d + 1) n_Bu_buildLeast 6 [some (.ref 101), some (iv p), none, some (iv dp), some (iv lvl), some (iv nx), some (iv cnt)] [] B Q := by
  intro n
  induction n with
  | zero =>
    intro d Q B I nx cnt hd hC hn c0 h95 hN hs k
    have b0 := bkd_nn x
    refine c_Bu_buildLeast_6_ok (by omega) hC.1.1 ⟨hp0.1, hp0.2, ⟨by omega, by omega⟩, ⟨by omega, by omega⟩, fun _ => ?_, fun w => absurd w (by omega)⟩
    exact k B I nx BE.refl hC.1 (by omega) (by omega) rfl
  | succ n ih =>
    intro d Q B I nx cnt hd hC hn c0 h95 hN hs k
    have b0 := bkd_nn x
    have sx := stc_nn x hC.2.2.2.2.1
    have hpl := pr_lt hC.1.2.1
    have em : ((n + 1 : Nat) : Int) * stc x = n * stc x + stc x := by rw [Int.natCast_add, Int.add_mul]; simp
    have em2 : ((n + 1 : Nat) : Int) * spc x = n * spc x + spc x := by rw [Int.natCast_add, Int.add_mul]; simp
    have e0 : 0 ≤ (n : Int) * stc x := Int.mul_nonneg (by omega) sx.1
    have e02 : 0 ≤ (n : Int) * spc x := Int.mul_nonneg (by omega) sx.2
    have g4 := hC.1.2.2.2.1
    refine c_Bu_buildLeast_6_ok (by omega) hC.1.1 ⟨hp0.1, hp0.2, ⟨by omega, by omega⟩, ⟨by omega, by omega⟩, fun w => absurd w (by omega), fun _ => ?_⟩
    refine hP d _ a B I H M N (B 93 p) nx dp lv lvl (by rw [if_pos hx]; exact hd) hC hN (by omega) (fun B1 I1 v hE1 hB1 z7 z8 hL1 => ⟨v, rfl, hB1.1, ?_⟩)
    rw [if_neg (by decide)] at z7 z8
    refine ih d Q B1 I1 v (cnt + 1) hd (hC.be hE1 hB1) (by omega) (by omega) (by rw [hE1.1 95 p (by omega)]; exact h95) (by rw [hE1.1 93 p (by omega)]; exact Nd_be hC.1.2.1 hE1 hN) (by omega) (fun B2 I2 v2 hE2 hB2 y7 y8 hL2 => ?_)
    refine k B2 I2 v2 (hE1.tr hE2) hB2 (by omega) (by omega) (LyIt_snoc n v2 v nx ?_ ?_)
    · exact LyIt_mono (fun s n w => Ly_fr (fun _ _ _ _ _ _ => rfl) (by omega) (Int.le_refl _) _ _ _ _ _ _ _ w) _ _ _ hL2
    · exact Ly_fr (hE2.pv (by omega)) (Int.le_refl _) (by omega) _ _ _ _ _ _ _ hL1
theorem bbC_eq {s m l z : Int} (hB : BSt B a) : bbC B s m l z = brnC B a s (if z = 0 then m else l) (if z = 0 then l else m) := by
  unfold bbC brnC
  rw [toN hB]
/-- at most h - l rounds more -/
theorem L_more {l h p z : Int} (hP : BuPart h1 x) (hx : atm x = true) (hl : 0 ≤ l ∧ h ≤ 1000) (hp0 : 0 ≤ p ∧ p < 408) (hz : z = 0 ∨ z = 1) {ip : Int} : ∀ (n : Nat) (d : Nat) (Q : qO → qB → Prop) (B : qB) (I : Int → Int) (nx en cnt N0 : Int) (j : Nat), 10 + 8 * bkd x ≤ d → BuC a B H M N x lvl dp → cnt + n = h → cnt = l + j → B 96 p = h → Nd B M x N 2 ip → B a 7 + n * (stc x + 1) ≤ 608 → 0 ≤ N0 → N0 ≤ B a 7 → LyO (pvw B a I) N0 (B a 7) lv (fun s n => Ly (pvw B a I) H N0 (B a 7) x lv 0 s n dp 0) (decide (z = 1)) nx dp j en →
    (∀ B' I' v, BE a B B' I I' → BSt B' a → B' a 7 = B a 7 + n * (stc x + 1) → B' a 8 = B a 8 + n * (spc x + 1) → LyO (pvw B' a I') N0 (B' a 7) lv (fun s n => Ly (pvw B' a I') H N0 (B' a 7) x lv 0 s n dp 0) (decide (z = 1)) nx dp (j + n) v → Q (.inl (some (iv v))) B') → qY h1 (d + 1) n_Bu_buildMore 110 [some (.ref 101), some (iv p), some (iv nx), some (iv dp), some (iv lvl), some (iv ip), some (iv z), some (iv en), some (iv cnt), none] [] B Q := by
  intro n
  induction n with
  | zero =>
    intro d Q B I nx en cnt N0 j hd hC hn hj h96 hN hs n0 n1 hL k
    have b0 := bkd_nn x
    refine c_Bu_buildMore_110_ok (by omega) hC.1.1 ⟨hp0.1, hp0.2, ⟨by omega, by omega⟩, ⟨by omega, by omega⟩, fun _ => ?_, fun w => absurd w (by omega)⟩
    exact k B I en BE.refl hC.1 (by omega) (by omega) hL
  | succ n ih =>
    intro d Q B I nx en cnt N0 j hd hC hn hj h96 hN hs n0 n1 hL k
    have b0 := bkd_nn x
    have sx := stc_nn x hC.2.2.2.2.1
    have hpl := pr_lt hC.1.2.1
    have em : ((n + 1 : Nat) : Int) * (stc x + 1) = n * (stc x + 1) + (stc x + 1) := by rw [Int.natCast_add, Int.add_mul]; simp
    have em2 : ((n + 1 : Nat) : Int) * (spc x + 1) = n * (spc x + 1) + (spc x + 1) := by rw [Int.natCast_add, Int.add_mul]; simp
    have e0 : 0 ≤ (n : Int) * (stc x + 1) := Int.mul_nonneg (by omega) (by omega)
    have e02 : 0 ≤ (n : Int) * (spc x + 1) := Int.mul_nonneg (by omega) (by omega)
    have g4 := hC.1.2.2.2.1
    refine c_Bu_buildMore_110_ok (by omega) hC.1.1 ?_
    unfold c_Bu_buildMore_110
    rw [toN hC.1]
    refine ⟨hp0.1, hp0.2, ⟨by omega, by omega⟩, ⟨by omega, by omega⟩, fun w => absurd w (by omega), fun _ => ⟨hC.1.2.1, by omega, by omega, ?_⟩⟩
    have hB1 : BSt (paC B a 15 0 0 dp) a := BSt_add hC.1 (by omega) ⟨by decide, by decide⟩
    have hE1 : BE a B (paC B a 15 0 0 dp) I (gI I (B a 7) lv) := BE_add (by omega)
    have p1 := pv_add (a := a) (B := B) (k := 15) (v := 0) (n := 0) (e := dp) (I := I) (lv := lv)
    have e7 : paC B a 15 0 0 dp a 7 = B a 7 + 1 := by rw [paC_a, if_pos rfl]
    have e8 : paC B a 15 0 0 dp a 8 = B a 8 + 1 := by rw [paC_a, if_neg (by decide), if_pos rfl]; rfl
    generalize paC B a 15 0 0 dp = B1 at hB1 hE1 p1 e7 e8
    refine hP d _ a B1 (gI I (B a 7) lv) H M N ip en dp lv lvl (by rw [if_pos hx]; exact hd) (hC.be hE1 hB1) (Nd_be hC.1.2.1 hE1 hN) (by omega) (fun B2 I2 v hE2 hB2 z7 z8 hL2 => ⟨v, rfl, hB2.1, ?_⟩)
    rw [if_neg (by decide)] at z7 z8
    unfold c_Bu_buildMore_151
    rw [toN hB2, bbC_eq hB2]
    refine ⟨hC.1.2.1, by omega, by omega, hz, ?_⟩
    have hE3 : BE a B (brnC B2 a (B a 7) (if z = 0 then v else nx) (if z = 0 then nx else v)) I I2 := BE_brn (hE1.tr hE2) (Int.le_refl _) (by omega)
    have hB3 : BSt (brnC B2 a (B a 7) (if z = 0 then v else nx) (if z = 0 then nx else v)) a := BSt_brn hB2 (by omega)
    have a7 : brnC B2 a (B a 7) (if z = 0 then v else nx) (if z = 0 then nx else v) a 7 = B2 a 7 := brn_o a 7 (by omega)
    have a8 : brnC B2 a (B a 7) (if z = 0 then v else nx) (if z = 0 then nx else v) a 8 = B2 a 8 := brn_o a 8 (by omega)
    have f2 := hE2.pv (N0 := 0) (Int.le_refl _)
    have q3 := pv_brn3 (a := a) (B := B2) (s := B a 7) (x := if z = 0 then v else nx) (y := if z = 0 then nx else v) (I := I2)
    have qb : ∀ (j : Nat) (z' : Int), (z' ≠ B a 7 ∨ (j ≠ 3 ∧ j ≠ 4)) → pvw (brnC B2 a (B a 7) (if z = 0 then v else nx) (if z = 0 then nx else v)) a I2 j z' = pvw B2 a I2 j z' := fun j z' w => pv_brn j z' w
    generalize brnC B2 a (B a 7) (if z = 0 then v else nx) (if z = 0 then nx else v) = B3 at hE3 hB3 a7 a8 q3 qb
    have L3 : Ly (pvw B3 a I2) H N0 (B3 a 7) x lv 0 v en dp 0 := by
      rw [a7]
      exact Ly_fr (fun j s j0 j1 s0 s1 => qb j s (by omega)) (by omega) (Int.le_refl _) _ _ _ _ _ _ _ hL2
    have S3 : spl (pvw B3 a I2) N0 (B3 a 7) lv (B a 7) 15 (if decide (z = 1) = true then nx else v) (if decide (z = 1) = true then v else nx) dp := by
      have e3 : (if decide (z = 1) = true then nx else v) = (if z = 0 then v else nx) := by rcases hz with rfl | rfl <;> rfl
      have e4 : (if decide (z = 1) = true then v else nx) = (if z = 0 then nx else v) := by rcases hz with rfl | rfl <;> rfl
      rw [e3, e4]
      refine ⟨?_, q3.1, q3.2, ?_, ?_, n1, by omega⟩
      · rw [qb 1 _ (by omega), f2 1 _ (by decide) (by decide) (by omega) (by omega)]; exact p1.1
      · rw [qb 5 _ (by omega), f2 5 _ (by decide) (by decide) (by omega) (by omega)]; exact p1.2.2.2.2.1
      · rw [qb 7 _ (by omega), f2 7 _ (by decide) (by decide) (by omega) (by omega)]; exact p1.2.2.2.2.2
    have LO : LyO (pvw B3 a I2) N0 (B3 a 7) lv (fun s n => Ly (pvw B3 a I2) H N0 (B3 a 7) x lv 0 s n dp 0) (decide (z = 1)) nx dp (j + 1) (B a 7) := by
      refine ⟨v, en, S3, L3, LyO_fr (hE3.pv (by omega)) (Int.le_refl _) (by omega) (fun s n w => Ly_fr (hE3.pv (by omega)) (Int.le_refl _) (by omega) _ _ _ _ _ _ _ w) _ _ hL⟩
    refine ih d Q B3 I2 nx (B a 7) (cnt + 1) N0 (j + 1) hd (hC.be hE3 hB3) (by omega) (by omega) (by rw [hE3.1 96 p (by omega)]; exact h96) (Nd_be hC.1.2.1 hE3 hN) (by omega) n0 (by omega) LO (fun B4 I4 v4 hE4 hB4 y7 y8 hL4 => ?_)
    refine k B4 I4 v4 (hE3.tr hE4) hB4 (by omega) (by omega) ?_
    rw [show j + (n + 1) = j + 1 + n by omega]
    exact hL4
/-- rounds beyond the least: how many steps -/
def stm (l h c : Int) : Int := if h < 0 then c + 2 else (h - l) * (c + 1)
def spm (l h c : Int) : Int := if h < 0 then c + 1 else (h - l) * (c + 1)
theorem R_buildMore {l h g p : Int} (hP : BuPart h1 x) (hx : atm x = true) (hd : 11 + 8 * bkd x ≤ d) (hC : BuC a B H M N x lvl dp) (hp0 : 0 ≤ p ∧ p < 408) (h95 : B 95 p = l) (h96 : B 96 p = h) (h92 : B 92 p = g) (hlh : 0 ≤ l ∧ (h = -1 ∨ l ≤ h) ∧ h ≤ 20) (hg : 0 ≤ g ∧ g ≤ 2) (hN : Nd B M x N 2 (B 93 p)) (hs : B a 7 + stm l h (stc x) ≤ 608)
    (k : ∀ B' I' v, BE a B B' I I' → BSt B' a → B' a 7 = B a 7 + stm l h (stc x) → B' a 8 = B a 8 + spm l h (spc x) → LyM (pvw B' a I') (B a 7) (B' a 7) lv (fun s n d => Ly (pvw B' a I') H (B a 7) (B' a 7) x lv 0 s n d 0) (decide (g = 1)) l h v nx dp → Q (.inl (some (iv v))) B') : qY h1 d n_Bu_buildMore 0 [some (.ref 101), some (iv p), some (iv nx), some (iv dp), some (iv lvl), none, none, none, none, none] [] B Q := by
  have b0 := bkd_nn x
  have sx := stc_nn x hC.2.2.2.2.1
  have hpl := pr_lt hC.1.2.1
  have g4 := hC.1.2.2.2.1
  have hdp := hC.2.2.2.2.2.2
  obtain ⟨d, rfl⟩ : ∃ d', d = d' + 1 := ⟨d - 1, by omega⟩
  have k27 : ∀ z, z = (if g = 1 then 1 else 0) → c_Bu_buildMore_27 h1 d p nx dp lvl (B 93 p) z B Q := by
    intro z hz
    have hz01 : z = 0 ∨ z = 1 := by rw [hz]; split <;> omega
    have hzd : decide (z = 1) = decide (g = 1) := by
      rw [hz]
      by_cases e : g = 1
      · rw [if_pos e, decide_eq_true e]; rfl
      · rw [if_neg e, decide_eq_false e]; rfl
    unfold c_Bu_buildMore_27
    rw [h96, h95, toN hC.1]
    refine ⟨hp0.1, hp0.2, ⟨by omega, by omega⟩, fun w => ?_, fun w => ⟨hC.1.2.1, by omega, by unfold stm at hs; rw [if_pos (by omega)] at hs; omega, ?_⟩⟩
    · have hh : ¬ h < 0 := by omega
      have es : stm l h (stc x) = (h - l) * (stc x + 1) := by unfold stm; rw [if_neg hh]
      have es2 : spm l h (spc x) = (h - l) * (spc x + 1) := by unfold spm; rw [if_neg hh]
      have en : (((h - l).toNat : Nat) : Int) = h - l := by omega
      refine L_more (lv := lv) (z := z) (l := l) (h := h) hP hx ⟨hlh.1, by omega⟩ hp0 hz01 (h - l).toNat d Q B I nx nx l (B a 7) 0 (by push_cast at hd; omega) hC (by omega) (by omega) h96 hN (by rw [en, ← es]; exact hs) (by omega) (Int.le_refl _) rfl (fun B' I' v hE hB' y7 y8 hL => ?_)
      refine k B' I' v hE hB' (by rw [es, ← en]; exact y7) (by rw [es2, ← en]; exact y8) ?_
      unfold LyM
      rw [if_neg hh, ← hzd]
      rw [Nat.zero_add] at hL
      exact hL
    · have hh : h < 0 := by omega
      have es : stm l h (stc x) = stc x + 2 := by unfold stm; rw [if_pos hh]
      have es2 : spm l h (spc x) = spc x + 1 := by unfold spm; rw [if_pos hh]
      rw [es] at hs
      have hB1 : BSt (paC B a 15 0 0 dp) a := BSt_add hC.1 (by omega) ⟨by decide, by decide⟩
      have hE1 : BE a B (paC B a 15 0 0 dp) I (gI I (B a 7) lv) := BE_add (by omega)
      have p1 := pv_add (a := a) (B := B) (k := 15) (v := 0) (n := 0) (e := dp) (I := I) (lv := lv)
      have e7 : paC B a 15 0 0 dp a 7 = B a 7 + 1 := by rw [paC_a, if_pos rfl]
      have e8 : paC B a 15 0 0 dp a 8 = B a 8 + 1 := by rw [paC_a, if_neg (by decide), if_pos rfl]; rfl
      generalize paC B a 15 0 0 dp = B1 at hB1 hE1 p1 e7 e8
      rw [toN hB1]
      have hB2 : BSt (paC B1 a 16 (dp + 1) (B a 7) dp) a := BSt_add hB1 (by omega) ⟨by decide, by decide⟩
      have hE2 : BE a B1 (paC B1 a 16 (dp + 1) (B a 7) dp) (gI I (B a 7) lv) (gI (gI I (B a 7) lv) (B1 a 7) lv) := BE_add (by omega)
      have p2 := pv_add (a := a) (B := B1) (k := 16) (v := dp + 1) (n := B a 7) (e := dp) (I := gI I (B a 7) lv) (lv := lv)
      have y7 : paC B1 a 16 (dp + 1) (B a 7) dp a 7 = B a 7 + 2 := by rw [paC_a, if_pos rfl]; omega
      have y8 : paC B1 a 16 (dp + 1) (B a 7) dp a 8 = B a 8 + 1 := by rw [paC_a, if_neg (by decide), if_pos rfl, e8, show skd 16 = 0 from rfl]; omega
      refine ⟨hC.1.2.1, by omega, by omega, ?_⟩
      generalize paC B1 a 16 (dp + 1) (B a 7) dp = B2 at hB2 hE2 p2 y7 y8
      generalize gI (gI I (B a 7) lv) (B1 a 7) lv = I2 at hE2 p2
      have hC2 := (hC.be (hE1.tr hE2) hB2)
      have hC2' : BuC a B2 H M N x lvl (dp + 1) := ⟨hC2.1, hC2.2.1, hC2.2.2.1, hC2.2.2.2.1, hC2.2.2.2.2.1, hC2.2.2.2.2.2.1, by omega, hC2.2.2.2.2.2.2.2⟩
      · refine hP d _ a B2 I2 H M N (B 93 p) (B1 a 7) (dp + 1) lv lvl (by rw [if_pos hx]; push_cast at hd; omega) hC2' (Nd_be hC.1.2.1 (hE1.tr hE2) hN) (by omega) (fun B3 I3 v hE3 hB3 z7 z8 hL3 => ⟨v, rfl, hB3.1, ?_⟩)
        rw [if_neg (by decide)] at z7 z8
        unfold c_Bu_buildMore_88
        rw [toN hB3, bbC_eq hB3]
        refine ⟨hC.1.2.1, by omega, by omega, hz01, ?_⟩
        have hE03 := (hE1.tr hE2).tr hE3
        have hE4 : BE a B (brnC B3 a (B a 7) (if z = 0 then v else nx) (if z = 0 then nx else v)) I I3 := BE_brn hE03 (Int.le_refl _) (by omega)
        have hB4 : BSt (brnC B3 a (B a 7) (if z = 0 then v else nx) (if z = 0 then nx else v)) a := BSt_brn hB3 (by omega)
        have a7 : brnC B3 a (B a 7) (if z = 0 then v else nx) (if z = 0 then nx else v) a 7 = B3 a 7 := brn_o a 7 (by omega)
        have a8 : brnC B3 a (B a 7) (if z = 0 then v else nx) (if z = 0 then nx else v) a 8 = B3 a 8 := brn_o a 8 (by omega)
        have f2 := hE2.pv (N0 := 0) (Int.le_refl _)
        have f3 := hE3.pv (N0 := 0) (Int.le_refl _)
        have q3 := pv_brn3 (a := a) (B := B3) (s := B a 7) (x := if z = 0 then v else nx) (y := if z = 0 then nx else v) (I := I3)
        have qb : ∀ (j : Nat) (z' : Int), (z' ≠ B a 7 ∨ (j ≠ 3 ∧ j ≠ 4)) → pvw (brnC B3 a (B a 7) (if z = 0 then v else nx) (if z = 0 then nx else v)) a I3 j z' = pvw B3 a I3 j z' := fun j z' w => pv_brn j z' w
        refine k (brnC B3 a (B a 7) (if z = 0 then v else nx) (if z = 0 then nx else v)) I3 (B a 7) hE4 hB4 (by rw [a7, es]; omega) (by rw [a8, es2]; omega) ?_
        generalize brnC B3 a (B a 7) (if z = 0 then v else nx) (if z = 0 then nx else v) = B4 at hE4 hB4 a7 a8 q3 qb
        unfold LyM
        rw [if_pos hh, ← hzd]
        refine ⟨B1 a 7, v, ?_, ⟨?_, ?_⟩, ?_⟩
        · have e3 : (if decide (z = 1) = true then nx else v) = (if z = 0 then v else nx) := by rcases hz01 with rfl | rfl <;> rfl
          have e4 : (if decide (z = 1) = true then v else nx) = (if z = 0 then nx else v) := by rcases hz01 with rfl | rfl <;> rfl
          rw [e3, e4]
          refine ⟨?_, q3.1, q3.2, ?_, ?_, Int.le_refl _, by omega⟩
          · rw [qb 1 _ (by omega), f3 1 _ (by decide) (by decide) (by omega) (by omega), f2 1 _ (by decide) (by decide) (by omega) (by omega)]; exact p1.1
          · rw [qb 5 _ (by omega), f3 5 _ (by decide) (by decide) (by omega) (by omega), f2 5 _ (by decide) (by decide) (by omega) (by omega)]; exact p1.2.2.2.2.1
          · rw [qb 7 _ (by omega), f3 7 _ (by decide) (by decide) (by omega) (by omega), f2 7 _ (by decide) (by decide) (by omega) (by omega)]; exact p1.2.2.2.2.2
        · refine ⟨?_, ?_, ?_, ?_, by omega, by omega⟩
          · rw [qb 1 _ (by omega), f3 1 _ (by decide) (by decide) (by omega) (by omega)]; exact p2.1
          · rw [qb 3 _ (by omega), f3 3 _ (by decide) (by decide) (by omega) (by omega)]; exact p2.2.2.1
          · rw [qb 5 _ (by omega), f3 5 _ (by decide) (by decide) (by omega) (by omega)]; exact p2.2.2.2.2.1
          · rw [qb 7 _ (by omega), f3 7 _ (by decide) (by decide) (by omega) (by omega)]; exact p2.2.2.2.2.2
        · rw [qb 2 _ (by omega), f3 2 _ (by decide) (by decide) (by omega) (by omega)]; exact p2.2.1
        · rw [a7]
          exact Ly_fr (fun j s j0 j1 s0 s1 => qb j s (by omega)) (by omega) (Int.le_refl _) _ _ _ _ _ _ _ hL3
  refine y_wk (c_Bu_buildMore_0_ok (by omega) hC.1.1 ?_) ⟨rfl, rfl, rfl, rfl, rfl, trivial⟩
  unfold c_Bu_buildMore_0
  rw [h92]
  exact ⟨hp0.1, hp0.2, ⟨by omega, by omega⟩, fun w => k27 0 (by rw [if_neg w]), fun w => k27 1 (by rw [if_pos w])⟩
theorem R_buildLeast {l p : Int} (hP : BuPart h1 x) (hx : atm x = true) (hd : 11 + 8 * bkd x ≤ d) (hC : BuC a B H M N x lvl dp) (hp0 : 0 ≤ p ∧ p < 408) (h95 : B 95 p = l) (hl : 0 ≤ l ∧ l ≤ 20) (hN : Nd B M x N 2 (B 93 p)) (hs : B a 7 + l * stc x ≤ 608)
    (k : ∀ B' I' v, BE a B B' I I' → BSt B' a → B' a 7 = B a 7 + l * stc x → B' a 8 = B a 8 + l * spc x → LyIt (fun s n => Ly (pvw B' a I') H (B a 7) (B' a 7) x lv 0 s n dp 0) l.toNat v nx → Q (.inl (some (iv v))) B') : qY h1 d n_Bu_buildLeast 0 [some (.ref 101), some (iv p), some (iv nx), some (iv dp), some (iv lvl), none, none] [] B Q := by
  have b0 := bkd_nn x
  obtain ⟨d, rfl⟩ : ∃ d', d = d' + 1 := ⟨d - 1, by omega⟩
  have en : ((l.toNat : Nat) : Int) = l := by omega
  refine y_wk (c_Bu_buildLeast_0_ok (by omega) hC.1.1 ?_) ⟨rfl, rfl, rfl, rfl, rfl, trivial⟩
  refine L_least (lv := lv) hP hx (l := l) (by omega) hp0 l.toNat d Q B I nx 0 (by push_cast at hd; omega) hC (by omega) (by decide) h95 hN (by rw [en]; exact hs) (fun B' I' v hE hB y7 y8 hL => ?_)
  rw [en] at y7 y8
  exact k B' I' v hE hB y7 y8 hL
/-- a quantified part -/
theorem P_mulR {k : Int} (hP : BuPart h1 x) : BuPart h1 (.mulR x k) := by
  intro d Q a B I H M N q nx dp lv lvl hd hC hN hs kk
  have hbk : bkd (.mulR x k) = bkd x := rfl
  have b0 := bkd_nn x
  have hpl := pr_lt hC.1.2.1
  have g4 := hC.1.2.2.2.1
  have hwf : wf x := hC.2.2.2.2.1.2.2.2.2.2.2
  obtain ⟨w1, w2, w3, w4, w5, w6, w7⟩ := hC.2.2.2.2.1
  have sx := stc_nn x hwf
  have hlv := hC.2.2.2.2.2.1
  have hN408 := hC.2.2.1
  obtain ⟨n1, n2, n3, n4, n5, n6, n7⟩ := hN
  have q0 := n2.1
  have q1 := n2.2.1
  have hx : atm x = true := by
    cases x with
    | num k => rfl
    | var s => rfl
    | add a b => cases n6
    | sub a b => cases n6
    | neg a => rfl
    | mulL k a => rfl
    | mulR a k => cases n6
  have hatm : atm (.mulR x k) = false := rfl
  rw [hatm, if_neg (by decide), hbk] at hd
  rw [hbk] at hlv
  have hdp := hC.2.2.2.2.2.2
  have hlnx : ln x ≤ 200 := by
    have e : ln (.mulR x k) = ln x + 1 := rfl
    have := hdp.2
    omega
  have hCx : BuC a B H M q x lvl dp := ⟨hC.1, hC.2.1, by omega, hC.2.2.2.1, hwf, hlv, hdp.1, hlnx⟩
  have est : stc (.mulR x k) = rl k * stc x + stm (rl k) (rh k) (stc x) + (if rg k = 2 then 1 else 0) := rfl
  have esp : spc (.mulR x k) = rl k * spc x + spm (rl k) (rh k) (spc x) + (if rg k = 2 then 1 else 0) := rfl
  have m0 : 0 ≤ rl k * stc x := Int.mul_nonneg w1 sx.1
  have m1 : 0 ≤ rl k * spc x := Int.mul_nonneg w1 sx.2
  have m2 : 0 ≤ stm (rl k) (rh k) (stc x) := by
    unfold stm
    split
    · omega
    · exact Int.mul_nonneg (by omega) (by omega)
  obtain ⟨d, rfl⟩ : ∃ d', d = d' + 2 := ⟨d - 2, by omega⟩
  refine c_Bu_buildPart_0_ok (by omega) hC.1.1 ?_
  unfold c_Bu_buildPart_0
  rw [n2.2.2]
  refine ⟨⟨by omega, by omega⟩, fun _ => ⟨by omega, by omega, ⟨by decide, by decide⟩, fun w => absurd w (by decide), fun w => absurd w (by decide), fun w => absurd w (by decide), fun w => absurd w (by decide), fun _ => ?_, fun _ _ _ _ w => absurd rfl w⟩, fun w => absurd w (by omega)⟩
  refine y_wk (c_Bu_buildRounds_0_ok (by omega) hC.1.1 ?_) ⟨rfl, rfl, rfl, rfl, rfl, trivial⟩
  unfold c_Bu_buildRounds_0
  rw [n3, toN hC.1]
  refine ⟨by omega, by omega, ⟨by omega, by omega⟩, fun wg => ⟨hC.1.2.1, by omega, ?_, ?_⟩, fun wg => ?_⟩
  · rw [if_pos wg] at est; omega
  · -- kept
    rw [if_pos wg] at est esp
    have hB1 : BSt (paC B a 14 0 nx dp) a := BSt_add hC.1 (by omega) ⟨by decide, by decide⟩
    have hE1 : BE a B (paC B a 14 0 nx dp) I (gI I (B a 7) lv) := BE_add (by omega)
    have p1 := pv_add (a := a) (B := B) (k := 14) (v := 0) (n := nx) (e := dp) (I := I) (lv := lv)
    have e7 : paC B a 14 0 nx dp a 7 = B a 7 + 1 := by rw [paC_a, if_pos rfl]
    have e8 : paC B a 14 0 nx dp a 8 = B a 8 + 1 := by rw [paC_a, if_neg (by decide), if_pos rfl]; rfl
    generalize paC B a 14 0 nx dp = B1 at hB1 hE1 p1 e7 e8
    generalize gI I (B a 7) lv = I1 at hE1 p1
    have hC1 := hCx.be hE1 hB1
    have hC1' : BuC a B1 H M q x lvl 0 := ⟨hC1.1, hC1.2.1, hC1.2.2.1, hC1.2.2.2.1, hC1.2.2.2.2.1, hC1.2.2.2.2.2.1, by decide, hC1.2.2.2.2.2.2.2⟩
    have o : ∀ b, 91 ≤ b → b ≤ 97 → B1 b q = B b q := fun b b0 b1 => hE1.1 b q (by omega)
    refine R_buildMore (lv := 1) (I := I1) hP hx (by push_cast at hd; omega) hC1' ⟨by omega, by omega⟩ ((o 95 (by decide) (by decide)).trans n4) ((o 96 (by decide) (by decide)).trans n5) ((o 92 (by decide) (by decide)).trans n3) ⟨w1, w3, w4⟩ ⟨w5, w6⟩ (by rw [o 93 (by decide) (by decide)]; exact Nd_be hC.1.2.1 hE1 n7) (by omega) (fun B2 I2 t hE2 hB2 z7 z8 hM2 => ⟨t, rfl, hB2.1, ?_⟩)
    have o2 : ∀ b, 91 ≤ b → b ≤ 97 → B2 b q = B b q := fun b b0 b1 => (hE2.1 b q (by omega)).trans (o b b0 b1)
    refine R_buildLeast (lv := 1) (I := I2) hP hx (by push_cast at hd; omega) (hC1'.be hE2 hB2) ⟨by omega, by omega⟩ ((o2 95 (by decide) (by decide)).trans n4) ⟨w1, w2⟩ (by rw [o2 93 (by decide) (by decide)]; exact Nd_be hC.1.2.1 (hE1.tr hE2) n7) (by omega) (fun B3 I3 v hE3 hB3 y7 y8 hL3 => ⟨v, rfl, hB3.1, ?_⟩)
    have hE13 := hE2.tr hE3
    have hE03 := hE1.tr hE13
    unfold c_Bu_buildRounds_61
    rw [toN hB3]
    refine ⟨hC.1.2.1, by omega, by omega, ?_⟩
    have hE4 : BE a B (brnC B3 a (B a 7) nx v) I I3 := BE_brn hE03 (Int.le_refl _) (by omega)
    have hB4 : BSt (brnC B3 a (B a 7) nx v) a := BSt_brn hB3 (by omega)
    have a7 : brnC B3 a (B a 7) nx v a 7 = B3 a 7 := brn_o a 7 (by omega)
    have a8 : brnC B3 a (B a 7) nx v a 8 = B3 a 8 := brn_o a 8 (by omega)
    have f3 := hE13.pv (N0 := 0) (Int.le_refl _)
    have q3 := pv_brn3 (a := a) (B := B3) (s := B a 7) (x := nx) (y := v) (I := I3)
    have qb : ∀ (j : Nat) (z' : Int), (z' ≠ B a 7 ∨ (j ≠ 3 ∧ j ≠ 4)) → pvw (brnC B3 a (B a 7) nx v) a I3 j z' = pvw B3 a I3 j z' := fun j z' w => pv_brn j z' w
    refine ⟨_, rfl, hB4.1, kk (brnC B3 a (B a 7) nx v) I3 (B a 7) hE4 hB4 (by rw [a7, if_neg (by decide)]; omega) (by rw [a8, if_neg (by decide)]; omega) ?_⟩
    generalize brnC B3 a (B a 7) nx v = B4 at hE4 hB4 a7 a8 q3 qb
    unfold Ly
    rw [if_pos wg]
    have hg1 : decide (rg k = 1) = false := decide_eq_false (by omega)
    rw [hg1] at hM2
    refine ⟨v, ⟨?_, q3.1, q3.2, ?_, ?_, Int.le_refl _, by omega⟩, t, ?_, ?_⟩
    · rw [qb 1 _ (by omega), f3 1 _ (by decide) (by decide) (by omega) (by omega)]; exact p1.1
    · rw [qb 5 _ (by omega), f3 5 _ (by decide) (by decide) (by omega) (by omega)]; exact p1.2.2.2.2.1
    · rw [qb 7 _ (by omega), f3 7 _ (by decide) (by decide) (by omega) (by omega)]; exact p1.2.2.2.2.2
    · rw [a7]
      exact LyIt_mono (fun s n w => Ly_fr (fun j s j0 j1 s0 s1 => qb j s (by omega)) (by omega) (Int.le_refl _) _ _ _ _ _ _ _ w) _ _ _ hL3
    · rw [a7]
      have fr : ∀ j s, 1 ≤ j → j ≤ 7 → B1 a 7 ≤ s → s < B2 a 7 → pvw B4 a I3 j s = pvw B2 a I2 j s := fun j s j0 j1 s0 s1 => by rw [qb j s (by omega)]; exact hE3.pv (N0 := 0) (Int.le_refl _) j s j0 j1 (by omega) s1
      exact LyM_fr fr (by omega) (by omega) (fun s n d w => Ly_fr fr (by omega) (by omega) _ _ _ _ _ _ _ w) hM2
  · rw [if_neg wg] at est esp
    have o : ∀ b, 91 ≤ b → b ≤ 97 → B b q = B b q := fun b _ _ => rfl
    refine R_buildMore (lv := lv) (I := I) hP hx (by push_cast at hd; omega) hCx ⟨by omega, by omega⟩ n4 n5 n3 ⟨w1, w3, w4⟩ ⟨w5, w6⟩ n7 (by omega) (fun B2 I2 t hE2 hB2 z7 z8 hM2 => ⟨t, rfl, hB2.1, ?_⟩)
    have o2 : ∀ b, 91 ≤ b → b ≤ 97 → B2 b q = B b q := fun b b0 b1 => hE2.1 b q (by omega)
    refine R_buildLeast (lv := lv) (I := I2) hP hx (by push_cast at hd; omega) (hCx.be hE2 hB2) ⟨by omega, by omega⟩ ((o2 95 (by decide) (by decide)).trans n4) ⟨w1, w2⟩ (by rw [o2 93 (by decide) (by decide)]; exact Nd_be hC.1.2.1 hE2 n7) (by omega) (fun B3 I3 v hE3 hB3 y7 y8 hL3 => ⟨v, rfl, hB3.1, ?_⟩)
    refine ⟨_, rfl, hB3.1, kk B3 I3 v (hE2.tr hE3) hB3 (by rw [if_neg (by decide)]; omega) (by rw [if_neg (by decide)]; omega) ?_⟩
    unfold Ly
    rw [if_neg wg]
    refine ⟨t, ?_, ?_⟩
    · exact LyIt_mono (fun s n w => Ly_fr (fun _ _ _ _ _ _ => rfl) (by omega) (Int.le_refl _) _ _ _ _ _ _ _ w) _ _ _ hL3
    · have fr := hE3.pv (N0 := B a 7) (by omega)
      exact LyM_fr fr (Int.le_refl _) (by omega) (fun s n d w => Ly_fr fr (Int.le_refl _) (by omega) _ _ _ _ _ _ _ w) hM2
end BD3
