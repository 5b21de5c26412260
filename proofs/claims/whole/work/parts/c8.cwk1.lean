/-! THE CLASS'S WALKER: records, the pile, and the loop of a walk -/
section FA
variable {h1 : qH} {d : Nat} {B : qB} {Q : qO → qB → Prop} {c0 s0 : Int}
theorem us3 {κ : Int} (h0 : 0 ≤ κ) (h1 : κ < 2147483648) : iUshr κ 3 = κ / 8 := n_ushr 3 (by decide) h0 h1
theorem an7 {κ : Int} (h0 : 0 ≤ κ) (h1 : κ < 2147483648) : iAnd κ 7 = κ % 8 := n_and' 3 (by decide) h0 h1
theorem rv_eq {κ : Int} (h0 : 0 ≤ κ) (h1 : κ < 2147483648) : iAnd (iUshr (B (fe B) (iUshr κ 3)) (4 * (iAnd κ 7))) 15 = rv B κ := by
  unfold rv nib
  rw [us3 h0 h1, an7 h0 h1, show ((4 * (κ % 8).toNat : Nat) : Int) = 4 * (κ % 8) by omega]
theorem rv_rg {κ : Int} : 0 ≤ rv B κ ∧ rv B κ ≤ 15 := nib_rg _ _ (by omega)
theorem R_fat {κ : Int} (hd : 3 ≤ d) (hS : SH B) (hD : DI c0 s0 B) (k0 : 0 ≤ κ) (k1 : κ / 8 < el B (fe B)) (w : Q (.inl (some (iv (rv B κ)))) B) : qY h1 d n_Fl_at 0 [some (.ref 105), some (iv κ)] [] B Q := by
  obtain ⟨d, rfl⟩ : ∃ d', d = d' + 1 := ⟨d - 1, by omega⟩
  obtain ⟨g1, g2, g3, g4⟩ := hD.fail
  have g3r : el B (B 105 0).toNat ≤ 65536 := g3
  have k2 : κ < 2147483648 := by omega
  refine c_Fl_at_0_ok (by omega) hS ?_
  unfold c_Fl_at_0
  have e := rv_eq (B := B) k0 k2
  unfold fe at e
  rw [e, us3 k0 k2]
  exact ⟨g1, by omega, g4, by omega, k1, w⟩
theorem R_fhas {κ x : Int} (hd : 4 ≤ d) (hS : SH B) (hD : DI c0 s0 B) (k0 : 0 ≤ κ) (k1 : κ / 8 < el B (fe B)) (hx : R32 x) (w : Q (.inl (some (iv (if x < rv B κ then 1 else 0)))) B) : qY h1 d n_Fl_has 0 [some (.ref 105), some (iv κ), some (iv x)] [] B Q := by
  obtain ⟨d, rfl⟩ : ∃ d', d = d' + 1 := ⟨d - 1, by omega⟩
  refine c_Fl_has_0_ok (by omega) hS ?_
  unfold c_Fl_has_0
  refine R_fat (by omega) hS hD k0 k1 ⟨_, rfl, hS, ?_⟩
  have hr := rv_rg (B := B) (κ := κ)
  unfold c_Fl_has_5
  refine ⟨⟨by omega, by omega⟩, hx, fun q => ?_, fun q => ?_⟩
  · rw [if_neg (by omega)] at w; exact w
  · rw [if_pos (by omega)] at w; exact w
/-- the record of κ is x + 1 at least -/
def RAd (c0 s0 : Int) (B B' : qB) (κ x : Int) : Prop := SH B' ∧ DI c0 s0 B' ∧ pe B' = pe B ∧ fe B' = fe B ∧ rv B' κ = (if rv B κ ≤ x then x + 1 else rv B κ) ∧ (∀ κ', 0 ≤ κ' → κ' ≠ κ → rv B' κ' = rv B κ') ∧ (∀ b y, b ≠ fe B → B' b y = B b y) ∧ B' (fe B) (-1) = B (fe B) (-1)
theorem R_fadd {κ x : Int} (hd : 4 ≤ d) (hS : SH B) (hD : DI c0 s0 B) (k0 : 0 ≤ κ) (k1 : κ / 8 < el B (fe B)) (x0 : 0 ≤ x) (x1 : x ≤ 14) (w : ∀ B', RAd c0 s0 B B' κ x → Q (.inl none) B') : qY h1 d n_Fl_add 0 [some (.ref 105), some (iv κ), some (iv x), none, none] [] B Q := by
  obtain ⟨d, rfl⟩ : ∃ d', d = d' + 1 := ⟨d - 1, by omega⟩
  obtain ⟨g1, g2, g3, g4⟩ := hD.fail
  have g3r : el B (B 105 0).toNat ≤ 65536 := g3
  have k2 : κ < 2147483648 := by omega
  have hf : fe B = 106 ∨ 112 ≤ fe B := by
    obtain ⟨-, -, kp, kf, -, -, -, -, -, h8, -⟩ := hD
    exact h8.1
  have hpf : pe B ≠ fe B := by
    obtain ⟨-, -, kp, kf, -, -, -, -, -, -, h9, -⟩ := hD
    exact h9
  refine c_Fl_add_0_ok (by omega) hS ?_
  unfold c_Fl_add_0
  refine R_fat (by omega) hS hD k0 k1 ⟨_, rfl, hS, ?_⟩
  have hr := rv_rg (B := B) (κ := κ)
  unfold c_Fl_add_5
  refine ⟨⟨by omega, by omega⟩, ⟨by omega, by omega⟩, fun q => ?_, fun q => ⟨g1, by omega, g4, by rw [us3 k0 k2]; omega, by rw [us3 k0 k2]; exact k1, ?_⟩⟩
  · exact w B ⟨hS, hD, rfl, rfl, by rw [if_neg (by omega)], fun _ _ _ => rfl, fun _ _ _ => rfl, rfl⟩
  · have ex : iAnd (x + 1) 15 = x + 1 := by
      have e15 : iAnd (x + 1) 15 = (x + 1) % 16 := n_and' 4 (by decide) (show 0 ≤ x + 1 by omega) (by omega)
      omega
    rw [us3 k0 k2, an7 k0 k2, ex, show 4 * (κ % 8) = ((4 * (κ % 8).toNat : Nat) : Int) by omega]
    obtain ⟨D1, p1, f1⟩ := DI_u2 (b := fe B) (x := κ / 8) (z := iOr (iAnd (B (fe B) (κ / 8)) (iXor (iShl 15 ((4 * (κ % 8).toNat : Nat) : Int)) (-1))) (iShl (x + 1) ((4 * (κ % 8).toNat : Nat) : Int))) hD (by omega) g4 (fun q => by omega) (fun q => by omega)
    refine w _ ⟨SH_u2 hS (by omega), D1, p1, f1, ?_, fun κ' z0 z1 => ?_, fun b y hb => u2_bank hb, u2_idx (by omega)⟩
    · unfold rv
      rw [f1, u2_same, nib_set (by omega) (by omega) (by omega) (by omega), if_pos rfl, if_pos (show nib (B (fe B) (κ / 8)) (κ % 8).toNat ≤ x from q)]
    · unfold rv
      rw [f1]
      by_cases e : κ' / 8 = κ / 8
      · rw [e, u2_same, nib_set (by omega) (by omega) (by omega) (by omega), if_neg (by omega)]
      · rw [u2_idx e]
theorem R_ppop (hd : 3 ≤ d) (hS : SH B) (hD : DI c0 s0 B) (h0 : 0 < B 103 1) (w : Q (.inl (some (iv (B (pe B) (B 103 1 - 1))))) (u2 B 103 1 (B 103 1 - 1))) : qY h1 d n_Pi_pop 0 [some (.ref 103)] [] B Q := by
  obtain ⟨d, rfl⟩ : ∃ d', d = d' + 1 := ⟨d - 1, by omega⟩
  obtain ⟨g1, g2, g3, g4, -, g8, g9⟩ := hD.pile
  have g3r : el B (B 103 0).toNat ≤ 1048576 := g3
  have g9r : B 103 1 ≤ el B (B 103 0).toNat := g9
  have hp4 : pe B = 104 ∨ 112 ≤ pe B := by
    obtain ⟨-, -, kp, kf, -, -, -, -, h7, -⟩ := hD
    exact h7.1
  have ee : el (u2 B 103 1 (B 103 1 - 1)) (B 103 0).toNat = el B (B 103 0).toNat := by
    unfold el
    rw [u2_idx (by decide)]
  refine c_Pi_pop_0_ok (by omega) hS ?_
  unfold c_Pi_pop_0
  refine ⟨⟨by omega, by omega⟩, fun _ => ?_, fun q => by omega⟩
  rw [ee]
  refine ⟨⟨by rw [u2_idx (by decide)]; exact g1.1, g1.2⟩, by omega, g4, by omega, by omega, ?_⟩
  have e9 : (u2 B 103 1 (B 103 1 - 1)) (B 103 0).toNat (B 103 1 - 1) = B (pe B) (B 103 1 - 1) := u2_bank (by unfold pe at hp4; omega)
  rw [e9]
  exact w
end FA
section WK
variable (h1 : qH) (d : Nat) (lv hgt : Int) (Q : qO → qB → Prop)
/-- a walk at the head of its loop -/
def Lp (k : Int) (B : qB) : Prop := qY h1 (d + 1) n_Wa_walk 27 [some (.ref 102), none, none, some (iv lv), some (iv hgt), some (iv k), none] [] B Q
/-- a walk that goes back -/
def Fl (k : Int) (B : qB) : Prop := qY h1 d n_Wa_goBack 8 [some (.ref 102), some (iv hgt), some (iv (B 103 1)), none, none, none, none] [] B (fun o B' => ∃ v : Int, o = .inl (some (iv v)) ∧ SH B' ∧ c_Wa_walk_95 h1 d lv hgt k v B' Q)
variable {h1 d lv hgt Q} {c0 s0 : Int} {B : qB} {k : Int}
theorem wk84 {v : Int} (hd : 6 ≤ d) (hS : SH B) (hv : v = 0 ∨ v = 1) (h1' : v = 1 → Lp h1 d lv hgt Q (k + 1) B) (h0 : v = 0 → Fl h1 d lv hgt Q k B) : c_Wa_walk_84 h1 d lv hgt k v B Q := by
  unfold c_Wa_walk_84
  refine ⟨⟨by omega, by omega⟩, fun q => ?_, fun q => ?_⟩
  · exact h1' (by omega)
  · obtain ⟨d, rfl⟩ : ∃ d', d = d' + 1 := ⟨d - 1, by omega⟩
    exact c_Wa_goBack_0_ok (by omega) hS (h0 q)
/-- the step is not the last one -/
theorem Lp_adv (hd : 6 ≤ d) (hS : SH B) (k0 : 0 ≤ k) (k1 : k < 1000000000) (hs : B 102 6 ≠ 0) (hs2 : R32 (B 102 6)) (w : qY h1 d n_Wa_advance 0 [some (.ref 102), some (iv lv), none] [] B (fun o B' => SH B' ∧ ((o = .inl (some (iv 1)) ∧ Lp h1 d lv hgt Q (k + 1) B') ∨ (o = .inl (some (iv 0)) ∧ Fl h1 d lv hgt Q k B')))) : Lp h1 d lv hgt Q k B := by
  refine c_Wa_walk_27_ok (by omega) hS ?_
  unfold c_Wa_walk_27
  refine ⟨⟨by omega, by omega⟩, fun q => by omega, fun _ => ⟨hs2, fun _ => ?_, fun q => absurd q hs⟩⟩
  refine w.mono (Nat.le_refl _) (fun o B' hw => ?_)
  rcases hw with ⟨hS', ⟨ho, hL⟩ | ⟨ho, hF⟩⟩
  · exact ⟨1, ho, hS', wk84 hd hS' (Or.inr rfl) (fun _ => hL) (fun q => by omega)⟩
  · exact ⟨0, ho, hS', wk84 hd hS' (Or.inl rfl) (fun q => by omega) (fun _ => hF)⟩
/-- the last step -/
theorem Lp_0 (hd : 6 ≤ d) (hS : SH B) (k0 : 0 ≤ k) (k1 : k < 1000000000) (hs : B 102 6 = 0) (hlv : lv = 0 ∨ lv = 1) (hte : B 102 5 = 0 ∨ B 102 5 = 1) (ht : ob 1 (B 102 4).toNat) (hp : R32 (B 102 7)) (hn : R32 (B (B 102 4).toNat 1)) (w1 : lv = 1 ∨ B 102 5 = 0 ∨ B 102 7 = B (B 102 4).toNat 1 → Q (.inl (some (iv (B 102 7)))) B) (w2 : ¬ (lv = 1 ∨ B 102 5 = 0 ∨ B 102 7 = B (B 102 4).toNat 1) → Fl h1 d lv hgt Q k B) : Lp h1 d lv hgt Q k B := by
  refine c_Wa_walk_27_ok (by omega) hS ?_
  unfold c_Wa_walk_27
  refine ⟨⟨by omega, by omega⟩, fun q => by omega, fun _ => ⟨⟨by omega, by omega⟩, fun q => absurd hs q, fun _ => ⟨⟨by omega, by omega⟩, fun q => w1 (Or.inl (by omega)), fun q => ⟨⟨by omega, by omega⟩, fun q2 => w1 (Or.inr (Or.inl q2)), fun q2 => ⟨ht, hp, hn, fun q3 => ?_, fun q3 => w1 (Or.inr (Or.inr q3))⟩⟩⟩⟩⟩
  exact wk84 hd hS (Or.inl rfl) (fun q => by omega) (fun _ => w2 (by omega))
/-! going back -/
theorem Fl_floor (hd : 6 ≤ d) (hS : SH B) (hh : B 103 1 = hgt) (hR : R32 hgt) (w : Q (.inl (some (iv (-1)))) B) : Fl h1 d lv hgt Q k B := by
  unfold Fl
  obtain ⟨d, rfl⟩ : ∃ d', d = d' + 1 := ⟨d - 1, by omega⟩
  refine c_Wa_goBack_8_ok (by omega) hS ?_
  unfold c_Wa_goBack_8
  refine ⟨by rw [hh]; exact hR, hR, fun _ => ⟨0, rfl, hS, ?_⟩, fun q => by omega⟩
  unfold c_Wa_walk_95
  exact ⟨⟨by decide, by decide⟩, fun q => absurd rfl q, fun _ => w⟩
/-- the memory without the topmost entry -/
def pop1 (B : qB) : qB := u2 B 103 1 (B 103 1 - 1)
theorem Fl_pop (hd : 6 ≤ d) (hS : SH B) (hD : DI c0 s0 B) (hh : hgt < B 103 1) (hg : 0 ≤ hgt) (w : c_Wa_goBack_20 h1 (d - 1) hgt (B 103 1) (B (pe B) (B 103 1 - 1)) (pop1 B) (fun o B' => ∃ v : Int, o = .inl (some (iv v)) ∧ SH B' ∧ c_Wa_walk_95 h1 d lv hgt k v B' Q)) : Fl h1 d lv hgt Q k B := by
  unfold Fl
  obtain ⟨g1, g2, g3, g4, -, g8, g9⟩ := hD.pile
  obtain ⟨d, rfl⟩ : ∃ d', d = d' + 1 := ⟨d - 1, by omega⟩
  refine c_Wa_goBack_8_ok (by omega) hS ?_
  unfold c_Wa_goBack_8
  refine ⟨⟨by omega, by omega⟩, ⟨by omega, by omega⟩, fun q => by omega, fun _ => ?_⟩
  exact R_ppop (by omega) hS hD (by omega) ⟨_, rfl, SH_u2 hS (by decide), w⟩
theorem pop1_D (hD : DI c0 s0 B) (h0 : 0 < B 103 1) : DI c0 s0 (pop1 B) ∧ pe (pop1 B) = pe B ∧ fe (pop1 B) = fe B := DI_sz hD (by omega) (by have := hD.pile.2.2.2.2.2.2; omega)
theorem Fl_135 (hd : 6 ≤ d) {B' : qB} {x : Int} (hx : x + (-1) = B' 103 1) (w : Fl h1 d lv hgt Q k B') : c_Wa_goBack_135 h1 (d - 1) hgt x B' (fun o B' => ∃ v : Int, o = .inl (some (iv v)) ∧ SH B' ∧ c_Wa_walk_95 h1 d lv hgt k v B' Q) := by
  unfold c_Wa_goBack_135
  rw [hx, Nat.sub_add_cancel (by omega)]
  exact w
theorem Fl_undo {e : Int} (hd : 6 ≤ d) (hS : SH B) (hD : DI c0 s0 B) (hh : hgt < B 103 1) (hg : 0 ≤ hgt) (he : B (pe B) (B 103 1 - 1) = e) (e0 : enO e) (ek : e / 16777216 = 2) (ei : e / 16384 % 1024 < 20) (w : Fl h1 d lv hgt Q k (u2 (pop1 B) 107 (e / 16384 % 1024) (e % 1024 - 1))) : Fl h1 d lv hgt Q k B := by
  refine Fl_pop hd hS hD hh hg ?_
  rw [he]
  obtain ⟨e1, e2⟩ := e0
  unfold c_Wa_goBack_20
  refine ⟨⟨e1, e2⟩, ⟨by omega, by omega⟩, fun q => absurd ek q, fun _ => ⟨by omega, ei, Fl_135 hd ?_ w⟩⟩
  unfold pop1
  rw [u2_bank (by decide), u2_same]
  omega
theorem Fl_failed {e : Int} (hd : 6 ≤ d) (hS : SH B) (hD : DI c0 s0 B) (hh : hgt < B 103 1) (hg : 0 ≤ hgt) (he : B (pe B) (B 103 1 - 1) = e) (e0 : enO e) (ek : e / 16777216 = 1) (es : e / 16384 % 1024 < 608) (et : e / 1024 % 16 ≤ 14) (ho : ob 5 (B 102 3).toNat) (ho2 : ob 1 (B 102 4).toNat) (hk0 : 0 ≤ keV B (e / 16384 % 1024) (e % 1024)) (hk1 : keV B (e / 16384 % 1024) (e % 1024) / 8 < el B (fe B)) (w : ∀ B', RAd c0 s0 (pop1 B) B' (keV B (e / 16384 % 1024) (e % 1024)) (e / 1024 % 16) → Fl h1 d lv hgt Q k B') : Fl h1 d lv hgt Q k B := by
  refine Fl_pop hd hS hD hh hg ?_
  rw [he]
  obtain ⟨e1, e2⟩ := e0
  have hD1 := pop1_D hD (by omega)
  have hS1 : SH (pop1 B) := SH_u2 hS (by decide)
  have b2 : ∀ y, (pop1 B) 102 y = B 102 y := fun y => u2_bank (by decide)
  have l5 := ob.lt ho
  have ek9 : keV (pop1 B) (e / 16384 % 1024) (e % 1024) = keV B (e / 16384 % 1024) (e % 1024) := by
    have n5 : (B 102 3).toNat + 6 ≠ 103 := by
      intro q
      have := pr_lt ho
      omega
    have n1 : (B 102 4).toNat ≠ 103 := by
      intro q
      have : ob 1 103 := by rw [← q]; exact ho2
      exact absurd this.1 (by decide)
    have n5' : ∀ y, (pop1 B) ((B 102 3).toNat + 6) y = B ((B 102 3).toNat + 6) y := fun y => u2_bank n5
    have n1' : ∀ y, (pop1 B) (B 102 4).toNat y = B (B 102 4).toNat y := fun y => u2_bank n1
    unfold keV
    rw [b2, b2, n5', n1']
  have ee : el (pop1 B) (fe (pop1 B)) = el B (fe B) := by
    rw [hD1.2.2]
    unfold el pop1
    rw [u2_idx (by decide)]
  unfold c_Wa_goBack_20
  rw [b2, b2, ek9]
  refine ⟨⟨e1, e2⟩, ⟨by omega, by omega⟩, fun _ => ⟨fun q => absurd ek q, fun _ => ⟨ho, ho2, by omega, es, ?_⟩⟩, fun q => by omega⟩
  refine R_fadd (c0 := c0) (s0 := s0) (by omega) hS1 hD1.1 hk0 (by rw [ee]; exact hk1) (by omega) et (fun B' hB' => ⟨rfl, hB'.1, ?_⟩)
  unfold c_Wa_goBack_88
  refine Fl_135 hd ?_ (w B' hB')
  have n3 : (103 : Nat) ≠ fe (pop1 B) := by
    rw [hD1.2.2]
    obtain ⟨-, -, kp, kf, -, -, -, -, -, h8, -⟩ := hD
    omega
  rw [hB'.2.2.2.2.2.2.1 103 1 n3]
  unfold pop1
  rw [u2_same]
  omega
theorem Fl_choice {s p u : Int} (hd : 6 ≤ d) (hS : SH B) (hD : DI c0 s0 B) (hh : hgt < B 103 1) (hg : 0 ≤ hgt) (he : B (pe B) (B 103 1 - 1) = pkV 0 s u p) (ho : ob 5 (B 102 3).toNat) (s0' : 0 ≤ s) (s1 : s < 608) (u0 : 0 ≤ u) (u1 : u < 16) (p0 : 0 ≤ p) (p1 : p < 1024) (w : ∀ B', PU c0 s0 (pop1 B) B' (pkV 1 s u p) → Lp h1 d lv hgt Q (k + 1) (u2 (u2 (u2 B' 102 6 (B ((B 102 3).toNat + 4) s)) 102 7 p) 102 8 u)) : Fl h1 d lv hgt Q k B := by
  refine Fl_pop hd hS hD hh hg ?_
  rw [he]
  have hD1 := pop1_D hD (by omega)
  have hS1 : SH (pop1 B) := SH_u2 hS (by decide)
  have z9 : (pop1 B) 103 1 = B 103 1 - 1 := u2_same
  have hsz := hD.pile
  have f1 : pkV 0 s u p / 16777216 = 0 := by unfold pkV; omega
  have f2 : pkV 0 s u p / 16384 % 1024 = s := by unfold pkV; omega
  have f3 : pkV 0 s u p / 1024 % 16 = u := by unfold pkV; omega
  have f4 : pkV 0 s u p % 1024 = p := by unfold pkV; omega
  have f5 : enO (pkV 0 s u p) := by unfold enO pkV; omega
  unfold c_Wa_goBack_20
  rw [f1, f2, f3, f4]
  refine ⟨f5, ⟨by omega, by omega⟩, fun _ => ⟨fun _ => ⟨⟨by decide, by decide, s0', by omega, u0, u1, p0, p1⟩, ?_⟩, fun q => by omega⟩, fun q => by omega⟩
  refine R_ppush (c0 := c0) (s0 := s0) (by omega) hS1 hD1.1 (by omega) (by omega) (fun B' hB' => ⟨rfl, hB'.1, ?_⟩)
  have b2 : ∀ y, B' 102 y = B 102 y := fun y => by
    rw [hB'.2.2.2.2.2.2.2.1 102 y (by decide) (by decide) (by decide)]
    exact u2_bank (by decide)
  have l5 := pr_lt ho
  have b4 : B' ((B 102 3).toNat + 4) s = B ((B 102 3).toNat + 4) s := by
    rw [hB'.2.2.2.2.2.2.2.1 _ s (by omega) (by omega) (by omega)]
    exact u2_bank (by omega)
  unfold c_Wa_goBack_108
  rw [b2]
  refine ⟨ho, s0', s1, 1, rfl, SH_u2 (SH_u2 (SH_u2 hB'.1 (by decide)) (by decide)) (by decide), ?_⟩
  unfold c_Wa_walk_95
  refine ⟨⟨by decide, by decide⟩, fun _ => ?_, fun q => by omega⟩
  rw [b4]
  exact w B' hB'
end WK
