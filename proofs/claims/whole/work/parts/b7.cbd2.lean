/-! THE CLASS'S BUILDER: it lays the tree out -/
theorem pr_lt {a : Nat} (h : ob 5 a) : a + 8 < 75 := by
  have : (List.range 112).all (fun a => !decide (shp a = 6) || decide (a + 8 < 75)) = true := by decide +kernel
  have h2 := sh_all this h.2.1
  have e : shp a = 6 := h.1
  rw [decide_eq_true e] at h2
  exact of_decide_eq_true (by simpa using h2)
def HSt (B : qB) (M : Int) (H : Int → Nat → Option Bool) : Prop := ∀ s (c : Nat), 0 ≤ s → s < M → c < 256 → H s c = some (hoC B 98 s c)
theorem HSt_be {a : Nat} {B B' : qB} {I I' : Int → Int} {H : Int → Nat → Option Bool} {M : Int} (ha : ob 5 a) (h : BE a B B' I I') (hH : HSt B M H) : HSt B' M H := fun s c s0 s1 hc => by
  have := pr_lt ha
  rw [hoC_fr (B := B) s0 (by omega) (fun x _ _ => h.1 99 x (by omega))]
  exact hH s c s0 s1 hc
theorem Nd_be {a : Nat} {B B' : qB} {I I' : Int → Int} (ha : ob 5 a) (h : BE a B B' I I') {M N m q : Int} {e : qT} (hN : Nd B M e N m q) : Nd B' M e N m q := by
  have := pr_lt ha
  exact Nd_fr (fun x _ _ => h.1 99 x (by omega)) (Int.le_refl _) _ _ _ _ _ hN (fun b x b0 b1 _ _ => h.1 b x (by omega)) (Int.le_refl _)
/-- what is asked of a build of e, mode m -/
def BuK (a : Nat) (B : qB) (I : Int → Int) (H : Int → Nat → Option Bool) (e : qT) (lv m nx dp al : Int) (Q : qO → qB → Prop) : Prop := ∀ B' I' v, BE a B B' I I' → BSt B' a → B' a 7 = B a 7 + stc e + (if m = 1 then 1 else 0) → B' a 8 = B a 8 + spc e + (if m = 1 then 1 else 0) → Ly (pvw B' a I') H (B a 7) (B' a 7) e lv m v nx dp al → Q (.inl (some (iv v))) B'
def BuC (a : Nat) (B : qB) (H : Int → Nat → Option Bool) (M N : Int) (e : qT) (lvl dp : Int) : Prop := BSt B a ∧ HSt B M H ∧ N ≤ 408 ∧ M ≤ 200 ∧ wf e ∧ (0 ≤ lvl ∧ lvl + bkd e ≤ 10) ∧ (0 ≤ dp ∧ ln e ≤ 200)
def BuPart (h1 : qH) (e : qT) : Prop := ∀ (d : Nat) (Q : qO → qB → Prop) (a : Nat) (B : qB) (I : Int → Int) (H : Int → Nat → Option Bool) (M N q nx dp lv lvl : Int), ((if atm e = true then 10 else 13) + 8 * bkd e ≤ d) → BuC a B H M N e lvl dp → Nd B M e N 2 q → B a 7 + stc e ≤ 608 → BuK a B I H e lv 0 nx dp 0 Q → qY h1 d n_Bu_buildPart 0 [some (.ref 101), some (iv q), some (iv nx), some (iv dp), some (iv lvl), none] [] B Q
def BuRow (h1 : qH) (e : qT) : Prop := ∀ (d : Nat) (Q : qO → qB → Prop) (a : Nat) (B : qB) (I : Int → Int) (H : Int → Nat → Option Bool) (M N q nx dp lv lvl cnt : Int), (13 + 8 * bkd e ≤ d) → BuC a B H M N e lvl dp → Nd B M e N 0 q → B a 7 + stc e ≤ 608 → 0 ≤ cnt → cnt + ln e ≤ 200 → BuK a B I H e lv 0 nx dp 0 Q → qY h1 (d + 1) n_Bu_buildRow 16 [some (.ref 101), none, none, some (iv dp), some (iv lvl), some (iv nx), some (iv q), some (iv cnt)] [] B Q
def BuWay (h1 : qH) (e : qT) : Prop := ∀ (d : Nat) (Q : qO → qB → Prop) (a : Nat) (B : qB) (I : Int → Int) (H : Int → Nat → Option Bool) (M N q y nx dp lv lvl al cnt : Int), (14 + 8 * bkd e ≤ d) → BuC a B H M N e lvl dp → Nd B M e N 1 q → B 94 y = q → 0 ≤ y → y < 408 → B a 7 + stc e + 1 ≤ 608 → 0 ≤ cnt → cnt + ln e ≤ 199 → BuK a B I H e lv 1 nx dp al Q → qY h1 (d + 1) n_Bu_buildWays 25 [some (.ref 101), none, some (iv nx), some (iv dp), some (iv lvl), some (iv y), some (iv al), some (iv cnt), none] [] B Q
theorem BuC.mono {a : Nat} {B : qB} {H : Int → Nat → Option Bool} {M N lvl dp : Int} {e x : qT} (h : BuC a B H M N e lvl dp) (hw : wf x) (hb : bkd x ≤ bkd e) (hl : ln x ≤ ln e) : BuC a B H M N x lvl dp := ⟨h.1, h.2.1, h.2.2.1, h.2.2.2.1, hw, ⟨h.2.2.2.2.2.1.1, by have := h.2.2.2.2.2.1.2; omega⟩, h.2.2.2.2.2.2.1, by have := h.2.2.2.2.2.2.2; omega⟩
theorem BuC.be {a : Nat} {B B' : qB} {I I' : Int → Int} {H : Int → Nat → Option Bool} {M N lvl dp : Int} {e : qT} (h : BuC a B H M N e lvl dp) (hE : BE a B B' I I') (hS : BSt B' a) : BuC a B' H M N e lvl dp := ⟨hS, HSt_be h.1.2.1 hE h.2.1, h.2.2⟩
section BD2
variable {h1 : qH} {d : Nat} {Q : qO → qB → Prop} {a : Nat} {B : qB} {I : Int → Int} {H : Int → Nat → Option Bool} {M N q nx dp lv lvl : Int} {e : qT}
theorem toN (h : BSt B a) : (B 101 1).toNat = a := by rw [h.2.2.1]; exact Int.toNat_natCast a
/-- a row, by its node -/
theorem R_buildRow (hR : BuRow h1 e) (hd : 14 + 8 * bkd e ≤ d) (hC : BuC a B H M N e lvl dp) (hq : 0 ≤ q ∧ q < 408) (hN : Nd B M e N 0 (B 93 q)) (hs : B a 7 + stc e ≤ 608) (hl : ln e ≤ 200) (k : BuK a B I H e lv 0 nx dp 0 Q) : qY h1 d n_Bu_buildRow 0 [some (.ref 101), some (iv q), some (iv nx), some (iv dp), some (iv lvl), none, none, none] [] B Q := by
  have b0 := bkd_nn e
  obtain ⟨d, rfl⟩ : ∃ d', d = d' + 1 := ⟨d - 1, by omega⟩
  refine y_wk (c_Bu_buildRow_0_ok (by omega) hC.1.1 ⟨hq.1, hq.2, ?_⟩) ⟨rfl, rfl, rfl, rfl, rfl, trivial⟩
  exact hR d Q a B I H M N _ nx dp lv lvl 0 (by push_cast at hd; omega) hC hN hs (by decide) (by omega) k
/-- one more way, then the ways before it -/
theorem L_way1 {y al cnt : Int} {e : qT} {Q : qO → qB → Prop} (hR : BuRow h1 e) (hd : 14 + 8 * bkd e ≤ d) (hC : BuC a B H M N e lvl dp) (hy : 0 ≤ y ∧ y < 408) (hq : B 94 y = q) (hq0 : 1 ≤ q ∧ q < 408) (hN : Nd B M e q 0 (B 93 q)) (hN2 : q ≤ 408) (hs : B a 7 + stc e + 1 ≤ 608) (hl : ln e ≤ 200) (hc : 0 ≤ cnt ∧ cnt < 200)
    (k : ∀ B' I' t, BE a B B' I I' → BSt B' a → B' a 7 = B a 7 + stc e + 1 → B' a 8 = B a 8 + spc e + 1 → (∀ v, Ly (pvw B' a I') H (B a 7) (B' a 7) e lv 0 v nx dp 0 → spl (pvw B' a I') (B a 7) (B' a 7) lv t 15 v al dp → qY h1 (d + 1) n_Bu_buildWays 25 [some (.ref 101), none, some (iv nx), some (iv dp), some (iv lvl), some (iv q), some (iv t), some (iv (cnt + 1)), none] [] B' Q)) : qY h1 (d + 1) n_Bu_buildWays 25 [some (.ref 101), none, some (iv nx), some (iv dp), some (iv lvl), some (iv y), some (iv al), some (iv cnt), none] [] B Q := by
  have hC0 := hC
  obtain ⟨hB, hH, hN408, hM, hwf, hlv, hdp⟩ := hC
  have b0 := bkd_nn e
  have s0 := stc_nn e hwf
  have hB0 := hB
  obtain ⟨g1, g2, g3, g4, g5, g6⟩ := hB
  have ta := toN hB0
  have hp := pr_lt g2
  refine c_Bu_buildWays_25_ok (by omega) g1 ?_
  unfold c_Bu_buildWays_25
  rw [ta, hq]
  refine ⟨⟨by omega, by omega⟩, fun w => absurd w (by omega), fun _ => ⟨hy.1, hy.2, ⟨by omega, by omega⟩, fun w => absurd w (by omega), fun _ => ⟨g2, by omega, by omega, ?_⟩⟩⟩
  have hB1 : BSt (paC B a 15 0 0 dp) a := BSt_add hB0 (by omega) ⟨by decide, by decide⟩
  have hE1 : BE a B (paC B a 15 0 0 dp) I (gI I (B a 7) lv) := BE_add (by omega)
  have p1 := pv_add (a := a) (B := B) (k := 15) (v := 0) (n := 0) (e := dp) (I := I) (lv := lv)
  have e7 : paC B a 15 0 0 dp a 7 = B a 7 + 1 := by rw [paC_a, if_pos rfl]
  have e8 : paC B a 15 0 0 dp a 8 = B a 8 + 1 := by rw [paC_a, if_neg (by decide), if_pos rfl]; rfl
  have t1 := toN hB1
  rw [t1]
  generalize paC B a 15 0 0 dp = B1 at hB1 hE1 p1 e7 e8 t1
  have hC1 : BuC a B1 H M q e lvl dp := ⟨hB1, HSt_be g2 hE1 hH, hN2, hM, hwf, hlv, hdp⟩
  have hNd1 : Nd B1 M e q 0 (B1 93 q) := by rw [hE1.1 93 q (by omega)]; exact Nd_be g2 hE1 hN
  refine R_buildRow (I := gI I (B a 7) lv) (lv := lv) hR hd hC1 ⟨by omega, hq0.2⟩ hNd1 (by omega) hl (fun B2 I2 v hE2 hB2 z7 z8 hL => ⟨v, rfl, hB2.1, g2, ?_⟩)
  rw [if_neg (by decide)] at z7 z8
  refine ⟨by omega, by omega, ?_⟩
  have hE02 := hE1.tr hE2
  have hE3 : BE a B (brnC B2 a (B a 7) v al) I I2 := BE_brn hE02 (Int.le_refl _) (by omega)
  have hB3 : BSt (brnC B2 a (B a 7) v al) a := BSt_brn hB2 (by omega)
  have a7 : brnC B2 a (B a 7) v al a 7 = B2 a 7 := brn_o a 7 (by omega)
  have a8 : brnC B2 a (B a 7) v al a 8 = B2 a 8 := brn_o a 8 (by omega)
  refine k (brnC B2 a (B a 7) v al) I2 (B a 7) hE3 hB3 (by rw [a7]; omega) (by rw [a8]; omega) v ?_ ?_
  · rw [a7]
    exact Ly_fr (fun j s j0 j1 s0 s1 => pv_brn j s (by omega)) (by omega) (Int.le_refl _) _ _ _ _ _ _ _ hL
  · have f2 := hE2.pv (N0 := 0) (Int.le_refl _)
    refine ⟨?_, pv_brn3.1, pv_brn3.2, ?_, ?_, Int.le_refl _, by rw [a7]; omega⟩
    · rw [pv_brn 1 _ (by omega), f2 1 _ (by decide) (by decide) (by omega) (by omega)]; exact p1.1
    · rw [pv_brn 5 _ (by omega), f2 5 _ (by decide) (by decide) (by omega) (by omega)]; exact p1.2.2.2.2.1
    · rw [pv_brn 7 _ (by omega), f2 7 _ (by decide) (by decide) (by omega) (by omega)]; exact p1.2.2.2.2.2
/-- the ways end -/
theorem L_way0 {y al cnt : Int} (hd : 3 ≤ d) (hB : BSt B a) (hy : 0 ≤ y ∧ y < 408) (hq : B 94 y = 0) (hc : 0 ≤ cnt ∧ cnt ≤ 1000) (k : Q (.inl (some (iv al))) B) : qY h1 (d + 1) n_Bu_buildWays 25 [some (.ref 101), none, some (iv nx), some (iv dp), some (iv lvl), some (iv y), some (iv al), some (iv cnt), none] [] B Q := by
  refine c_Bu_buildWays_25_ok (by omega) hB.1 ?_
  unfold c_Bu_buildWays_25
  rw [hq]
  exact ⟨⟨by omega, by omega⟩, fun _ => k, fun _ => ⟨hy.1, hy.2, ⟨by decide, by decide⟩, fun _ => k, fun w => absurd rfl w⟩⟩
/-- a row as a way among others -/
theorem W_row (hR : BuRow h1 e) (hrow : ∀ (B : qB) (M N q : Int), Nd B M e N 1 q → xnd B N q 12 ∧ B 94 q = 0 ∧ Nd B M e q 0 (B 93 q)) (hLy : ∀ (P : qP) (H : Int → Nat → Option Bool) (N0 N lv s v n d al : Int), Ly P H N0 N e lv 0 v n d 0 → spl P N0 N lv s 15 v al d → Ly P H N0 N e lv 1 s n d al) : BuWay h1 e := by
  intro d Q a B I H M N q y nx dp lv lvl al cnt hd hC hN hq y0 y1 hs c0 c1 k
  obtain ⟨hx, h94, hN0⟩ := hrow _ _ _ _ hN
  have b0 := bkd_nn e
  have l0 := ln_nn e
  have hN408 := hC.2.2.1
  have hp := pr_lt hC.1.2.1
  refine L_way1 (I := I) (lv := lv) hR hd hC ⟨y0, y1⟩ hq ⟨hx.1, by have := hx.2.1; omega⟩ hN0 (by have := hx.2.1; omega) hs (by omega) ⟨c0, by omega⟩ (fun B' I' t hE hB' z7 z8 v hL hS => ?_)
  refine L_way0 (by omega) hB' ⟨by have := hx.1; omega, by have := hx.2.1; omega⟩ (by rw [hE.1 94 q (by omega)]; exact h94) ⟨by omega, by omega⟩ ?_
  exact k B' I' t hE hB' (by rw [if_pos rfl]; exact z7) (by rw [if_pos rfl]; exact z8) (hLy _ _ _ _ _ _ _ _ _ _ hL hS)
/-- ways, by their node -/
theorem R_ways1 (hR : BuRow h1 e) (hd : 15 + 8 * bkd e ≤ d) (hC : BuC a B H M N e lvl dp) (hq : 0 ≤ q ∧ q < 408) (hx : xnd B N (B 93 q) 12) (h94 : B 94 (B 93 q) = 0) (hN : Nd B M e (B 93 q) 0 (B 93 (B 93 q))) (hs : B a 7 + stc e ≤ 608) (hl : ln e ≤ 200) (k : BuK a B I H e lv 0 nx dp 0 Q) : qY h1 d n_Bu_buildWays 0 [some (.ref 101), some (iv q), some (iv nx), some (iv dp), some (iv lvl), none, none, none, none] [] B Q := by
  have b0 := bkd_nn e
  have hN408 := hC.2.2.1
  have hp := pr_lt hC.1.2.1
  have x0 := hx.1
  have x1 := hx.2.1
  obtain ⟨d, rfl⟩ : ∃ d', d = d' + 1 := ⟨d - 1, by omega⟩
  refine y_wk (c_Bu_buildWays_0_ok (by omega) hC.1.1 ⟨hq.1, hq.2, ?_⟩) ⟨rfl, rfl, rfl, rfl, rfl, trivial⟩
  refine R_buildRow (I := I) (lv := lv) (N := B 93 q) hR (by push_cast at hd; omega) ⟨hC.1, hC.2.1, by omega, hC.2.2.2⟩ ⟨by omega, by omega⟩ hN hs hl (fun B' I' v hE hB' z7 z8 hL => ⟨v, rfl, hB'.1, ?_⟩)
  exact L_way0 (by omega) hB' ⟨by omega, by omega⟩ (by rw [hE.1 94 _ (by omega)]; exact h94) ⟨by decide, by decide⟩ (k B' I' v hE hB' z7 z8 hL)
theorem R_ways2 {x y : qT} (hR : BuRow h1 y) (hW : BuWay h1 x) (hd : 15 + 8 * bkd (.sub x y) ≤ d) (hC : BuC a B H M N (.sub x y) lvl dp) (hq : 0 ≤ q ∧ q < 408) (hN : Nd B M (.sub x y) N 1 (B 93 q)) (hs : B a 7 + stc (.sub x y) ≤ 608) (hl : ln (.sub x y) ≤ 200) (k : BuK a B I H (.sub x y) lv 0 nx dp 0 Q) : qY h1 d n_Bu_buildWays 0 [some (.ref 101), some (iv q), some (iv nx), some (iv dp), some (iv lvl), none, none, none, none] [] B Q := by
  have bx := bkd_nn x
  have by' := bkd_nn y
  have hN408 := hC.2.2.1
  have hp := pr_lt hC.1.2.1
  have hb : bkd (.sub x y) = max (bkd x) (bkd y) := rfl
  have hl' : ln (.sub x y) = ln x + ln y + 1 := rfl
  have hst : stc (.sub x y) = stc x + stc y + 1 := rfl
  have hsp : spc (.sub x y) = spc x + spc y + 1 := rfl
  have lx := ln_nn x
  have ly := ln_nn y
  have wx : wf x := hC.2.2.2.2.1.1
  have wy : wf y := hC.2.2.2.2.1.2
  have sx := stc_nn x wx
  have sy := stc_nn y wy
  obtain ⟨n1, n2, n3, n4, n5⟩ := hN
  have x0 := n2.1
  have x1 := n2.2.1
  obtain ⟨d, rfl⟩ : ∃ d', d = d' + 1 := ⟨d - 1, by omega⟩
  refine y_wk (c_Bu_buildWays_0_ok (by omega) hC.1.1 ⟨hq.1, hq.2, ?_⟩) ⟨rfl, rfl, rfl, rfl, rfl, trivial⟩
  have hCy := hC.mono wy (by omega) (by omega)
  refine R_buildRow (I := I) (lv := lv) (N := B 93 q) hR (by push_cast at hd; omega) ⟨hCy.1, hCy.2.1, by omega, hCy.2.2.2⟩ ⟨by omega, by omega⟩ n4 (by omega) (by omega) (fun B' I' v hE hB' z7 z8 hL => ⟨v, rfl, hB'.1, ?_⟩)
  rw [if_neg (by decide)] at z7 z8
  have hCx := (hC.mono wx (by omega) (by omega)).be hE hB'
  have b93 : B' 94 (B 93 q) = B 94 (B 93 q) := hE.1 94 _ (by omega)
  refine hW d Q a B' I' H M (B 93 q) (B 94 (B 93 q)) (B 93 q) nx dp lv lvl v 0 (by push_cast at hd; omega) ⟨hCx.1, hCx.2.1, by omega, hCx.2.2.2⟩ (Nd_be hC.1.2.1 hE n5) b93 (by omega) (by omega) (by omega) (by decide) (by omega) (fun B2 I2 v2 hE2 hB2 y7 y8 hL2 => ?_)
  rw [if_pos rfl] at y7 y8
  refine k B2 I2 v2 (hE.tr hE2) hB2 (by rw [if_neg (by decide)]; omega) (by rw [if_neg (by decide)]; omega) ⟨v, ?_, ?_⟩
  · exact Ly_fr (hE2.pv (by have := hC.1.2.2.2.1.1; omega)) (Int.le_refl _) (by omega) _ _ _ _ _ _ _ hL
  · exact Ly_fr (fun _ _ _ _ _ _ => rfl) (by omega) (Int.le_refl _) _ _ _ _ _ _ _ hL2
/-- ways of a bracket -/
def BuWys (h1 : qH) (e : qT) : Prop := ∀ (d : Nat) (Q : qO → qB → Prop) (a : Nat) (B : qB) (I : Int → Int) (H : Int → Nat → Option Bool) (M N q nx dp lv lvl : Int), (15 + 8 * bkd e ≤ d) → BuC a B H M N e lvl dp → 0 ≤ q → q < 408 → Nd B M e N 1 (B 93 q) → B a 7 + stc e ≤ 608 → ln e ≤ 200 → BuK a B I H e lv 0 nx dp 0 Q → qY h1 d n_Bu_buildWays 0 [some (.ref 101), some (iv q), some (iv nx), some (iv dp), some (iv lvl), none, none, none, none] [] B Q
theorem row_num (B : qB) (M N q : Int) (k : Int) (h : Nd B M (.num k) N 1 q) : xnd B N q 12 ∧ B 94 q = 0 ∧ Nd B M (.num k) q 0 (B 93 q) := by
  unfold Nd at h ⊢
  rw [if_neg (by decide), if_neg (by decide)] at h
  rw [if_neg (by decide), if_pos rfl]
  exact ⟨h.2.1, h.2.2.1, h.1, h.2.2.2⟩
theorem row_add (B : qB) (M N q : Int) (x y : qT) (h : Nd B M (.add x y) N 1 q) : xnd B N q 12 ∧ B 94 q = 0 ∧ Nd B M (.add x y) q 0 (B 93 q) := by
  unfold Nd at h ⊢
  obtain ⟨g1, g2, g3, g4⟩ := h
  have g := g2 rfl
  have e1 : nrr B 0 (B 93 q) = B 93 q := by unfold nrr; rw [if_neg (by decide)]
  have e2 : nrr B 1 q = B 93 q := by unfold nrr; rw [if_pos rfl]
  rw [if_pos rfl] at g3
  rw [if_neg (by decide)]
  rw [e2] at g3 g4
  rw [e1]
  exact ⟨g.1, g.2, by decide, fun w => absurd w (by decide), g3, g4⟩
end BD2
