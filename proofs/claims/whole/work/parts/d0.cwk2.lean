/-! THE CLASS'S WALKER: what a step does, by its kind -/
/-- the walker's program, text and manner -/
def WCx (a t : Nat) (n te : Int) (B : qB) : Prop := B 102 3 = (a : Int) ∧ ob 5 a ∧ B 102 4 = (t : Int) ∧ ob 1 t ∧ B t 1 = n ∧ (0 ≤ n ∧ n ≤ 1000) ∧ B 102 5 = te ∧ (te = 0 ∨ te = 1)
def AtS (B : qB) (s p u : Int) : Prop := B 102 6 = s ∧ B 102 7 = p ∧ B 102 8 = u
/-- the walker has moved, nothing else -/
def MV (c0 s0 : Int) (B B' : qB) (s p u : Int) : Prop := SH B' ∧ DI c0 s0 B' ∧ pe B' = pe B ∧ fe B' = fe B ∧ AtS B' s p u ∧ ∀ b x, (b = 102 → x ≠ 6 ∧ x ≠ 7 ∧ x ≠ 8) → B' b x = B b x
theorem MV_in {c0 s0 : Int} {B B' : qB} {s p u : Int} (hS : SH B) (hD : DI c0 s0 B) (hA : AtS B' s p u) (h : ∀ b x, (b = 102 → x ≠ 6 ∧ x ≠ 7 ∧ x ≠ 8) → B' b x = B b x) : MV c0 s0 B B' s p u := by
  have em : ∀ b, B' b (-1) = B b (-1) := fun b => h b (-1) (fun _ => by decide)
  have e3 : ∀ x, B' 103 x = B 103 x := fun x => h 103 x (fun q => absurd q (by decide))
  have e5 : ∀ x, B' 105 x = B 105 x := fun x => h 105 x (fun q => absurd q (by decide))
  have ek : ∀ x, B' 2000000000 x = B 2000000000 x := fun x => h 2000000000 x (fun q => absurd q (by decide))
  have ep : pe B' = pe B := by unfold pe; rw [e3]
  have ef : fe B' = fe B := by unfold fe; rw [e5]
  refine ⟨SH_same hS em, ?_, ep, ef, hA, h⟩
  unfold DI at hD ⊢
  simp only [ep, ef, em, ek, e3]
  exact hD
theorem bOK_n {a t : Nat} {n te : Int} {B : qB} (h : WCx a t n te B) : bOK B t := by
  obtain ⟨h1, h2, h3, h4, h5, h6, h7⟩ := h
  refine ⟨by omega, ?_⟩
  rcases bl_or h4 with q | q <;> omega
section ROW
variable {h1 : qH} {d : Nat} {lv hgt : Int} {Q : qO → qB → Prop} {c0 s0 : Int} {B : qB} {k : Int} {a t : Nat} {n te s p u : Int}
theorem byA_lt (h : B t 1 = n) (p0 : 0 ≤ p) : (p < n → byA B t p = iAnd (B (t + 1) p) 255) ∧ (¬ p < n → byA B t p = -1) := by
  unfold byA
  rw [h]
  exact ⟨fun q => if_pos ⟨p0, q⟩, fun q => if_neg (fun w => q w.2)⟩
theorem byA_rg : R32 (byA B t p) ∧ -1 ≤ byA B t p ∧ byA B t p ≤ 255 := by
  unfold byA
  have := a255 (B (t + 1) p)
  split
  · exact ⟨⟨by omega, by omega⟩, by omega, by omega⟩
  · exact ⟨⟨by decide, by decide⟩, by decide, by decide⟩
/-- a byte is taken -/
theorem R_wtake (hd : 5 ≤ d) (hS : SH B) (hD : DI c0 s0 B) (hW : WCx a t n te B) (hA : AtS B s p u) (hs : 0 ≤ s ∧ s < 608) {Q' : qO → qB → Prop} (w : ∀ B', MV c0 s0 B B' (B (a + 3) s) (p + 1) (B (a + 5) s) → Q' (.inl (some (iv 1))) B') : qY h1 d n_Wa_take 0 [some (.ref 102)] [] B Q' := by
  obtain ⟨d, rfl⟩ : ∃ d', d = d' + 1 := ⟨d - 1, by omega⟩
  obtain ⟨w3, w5, -⟩ := hW
  obtain ⟨a6, a7, a8⟩ := hA
  have et : (B 102 3).toNat = a := by omega
  have al := pr_lt w5
  refine c_Wa_take_0_ok (by omega) hS ?_
  unfold c_Wa_take_0
  have f1 : ∀ x, x ≠ 7 → x ≠ 8 → (u2 (u2 B 102 7 (B 102 7 + 1)) 102 8 ((u2 B 102 7 (B 102 7 + 1)) ((B 102 3).toNat + 5) (B 102 6))) 102 x = B 102 x := fun x q7 q8 => by rw [u2_idx q8, u2_idx q7]
  have f2 : ∀ b x, b ≠ 102 → (u2 (u2 B 102 7 (B 102 7 + 1)) 102 8 ((u2 B 102 7 (B 102 7 + 1)) ((B 102 3).toNat + 5) (B 102 6))) b x = B b x := fun b x q => by rw [u2_bank q, u2_bank q]
  rw [f1 3 (by decide) (by decide), f1 6 (by decide) (by decide), et, a6]
  refine ⟨w5, hs.1, hs.2, w5, hs.1, hs.2, w _ (MV_in hS hD ?_ ?_)⟩
  · rw [et, a6] at f2
    refine ⟨by rw [u2_same]; exact f2 _ _ (by omega), ?_, ?_⟩
    · rw [u2_idx (by decide), u2_idx (by decide), u2_same, a7]
    · rw [u2_idx (by decide), u2_same, u2_bank (by omega)]
  · intro b x hb
    by_cases e : b = 102
    · have := hb e
      subst e
      rw [u2_idx this.1, u2_idx this.2.2, u2_idx this.2.1]
    · rw [u2_bank e, u2_bank e, u2_bank e]
theorem L_b (hd : 8 ≤ d) (hS : SH B) (hD : DI c0 s0 B) (hW : WCx a t n te B) (hA : AtS B s p u) (hs : 1 ≤ s ∧ s < 608) (hp : 0 ≤ p ∧ p ≤ n) (k0 : 0 ≤ k) (k1 : k < 1000000000) (hk : B (a + 1) s = 1) (hv : 0 ≤ B (a + 2) s ∧ B (a + 2) s ≤ 255) (w1 : p < n ∧ byA B t p = B (a + 2) s → ∀ B', MV c0 s0 B B' (B (a + 3) s) (p + 1) (B (a + 5) s) → Lp h1 d lv hgt Q (k + 1) B') (w0 : ¬ (p < n ∧ byA B t p = B (a + 2) s) → Fl h1 d lv hgt Q k B) : Lp h1 d lv hgt Q k B := by
  have hW0 := hW
  have hA0 := hA
  obtain ⟨w3, w5, w4, wt, wn, wr, -⟩ := hW
  obtain ⟨a6, a7, a8⟩ := hA
  have et : (B 102 3).toNat = a := by omega
  have et4 : (B 102 4).toNat = t := by omega
  refine Lp_adv (by omega) hS k0 k1 (by omega) ⟨by omega, by omega⟩ ?_
  obtain ⟨d, rfl⟩ : ∃ d', d = d' + 1 := ⟨d - 1, by omega⟩
  refine adv_1 (by omega) hS (by rw [et]; exact w5) (by omega) (by omega) (by rw [et, a6]; exact hk) ?_
  rw [et, et4, a6, a7]
  have hb := byA_lt wn hp.1 (p := p)
  refine ⟨wt, bOK_n hW0, ⟨by omega, by omega⟩, byA_rg.1, ⟨by omega, by omega⟩, fun q => ⟨hS, Or.inr ⟨rfl, w0 (fun z => q z.2)⟩⟩, fun q => ?_⟩
  have hlt : p < n := by
    by_cases z : p < n
    · exact z
    · have := hb.2 z; omega
  refine R_wtake (by omega) hS hD hW0 hA0 ⟨by omega, hs.2⟩ (fun B' hB' => ⟨1, rfl, hB'.1, ?_⟩)
  unfold c_Wa_advance_123
  exact ⟨⟨by decide, by decide⟩, fun q => by omega, fun _ => ⟨hB'.1, Or.inl ⟨rfl, w1 ⟨hlt, q⟩ B' hB'⟩⟩⟩
theorem L_s (hd : 8 ≤ d) (hS : SH B) (hD : DI c0 s0 B) (hW : WCx a t n te B) (hA : AtS B s p u) (hs : 1 ≤ s ∧ s < 608) (hp : 0 ≤ p ∧ p ≤ n) (k0 : 0 ≤ k) (k1 : k < 1000000000) (hk : B (a + 1) s = 2) (hv : 0 ≤ B (a + 2) s ∧ B (a + 2) s < 200) (w1 : p < n ∧ hoC B (a + 7) (B (a + 2) s) (byA B t p) = true → ∀ B', MV c0 s0 B B' (B (a + 3) s) (p + 1) (B (a + 5) s) → Lp h1 d lv hgt Q (k + 1) B') (w0 : ¬ (p < n ∧ hoC B (a + 7) (B (a + 2) s) (byA B t p) = true) → Fl h1 d lv hgt Q k B) : Lp h1 d lv hgt Q k B := by
  have hW0 := hW
  have hA0 := hA
  obtain ⟨w3, w5, w4, wt, wn, wr, -⟩ := hW
  obtain ⟨a6, a7, a8⟩ := hA
  have et : (B 102 3).toNat = a := by omega
  have et4 : (B 102 4).toNat = t := by omega
  refine Lp_adv (by omega) hS k0 k1 (by omega) ⟨by omega, by omega⟩ ?_
  obtain ⟨d, rfl⟩ : ∃ d', d = d' + 1 := ⟨d - 1, by omega⟩
  refine adv_2 (by omega) hS (by rw [et]; exact w5) (by omega) (by omega) (by rw [et, a6]; exact hk) ?_
  rw [et, et4, a6, a7]
  have hb := byA_lt wn hp.1 (p := p)
  have hr := byA_rg (B := B) (t := t) (p := p)
  refine ⟨wt, bOK_n hW0, ⟨by omega, by omega⟩, ⟨hv.1, hv.2, hr.2.1, hr.2.2⟩, fun q => ⟨hS, Or.inr ⟨rfl, w0 (fun z => ?_)⟩⟩, fun q => ?_⟩
  · rw [bi_z, z.2] at q
    cases q
  · rw [bi_n0] at q
    have hlt : p < n := by
      by_cases z : p < n
      · exact z
      · rw [hb.2 z] at q
        unfold hoC at q
        rw [decide_eq_false (by decide), Bool.false_and] at q
        cases q
    refine R_wtake (by omega) hS hD hW0 hA0 ⟨by omega, hs.2⟩ (fun B' hB' => ⟨1, rfl, hB'.1, ?_⟩)
    unfold c_Wa_advance_158
    exact ⟨⟨by decide, by decide⟩, fun q => by omega, fun _ => ⟨hB'.1, Or.inl ⟨rfl, w1 ⟨hlt, q⟩ B' hB'⟩⟩⟩
/-- on to the next step -/
theorem MV_nx {x : Int} (hS : SH B) (hD : DI c0 s0 B) (hA : AtS B s p u) : MV c0 s0 B (u2 B 102 6 x) x p u := by
  refine MV_in hS hD ⟨u2_same, by rw [u2_idx (by decide)]; exact hA.2.1, by rw [u2_idx (by decide)]; exact hA.2.2⟩ (fun b y hb => ?_)
  by_cases e : b = 102
  · have := hb e
    subst e
    exact u2_idx this.1
  · exact u2_bank e
theorem L_g {k' : Int} (hd : 8 ≤ d) (hS : SH B) (hD : DI c0 s0 B) (hW : WCx a t n te B) (hA : AtS B s p u) (hs : 1 ≤ s ∧ s < 608) (hp : 0 ≤ p ∧ p ≤ n) (k0 : 0 ≤ k) (k1 : k < 1000000000) (hk : B (a + 1) s = k') (hk' : 3 ≤ k' ∧ k' ≤ 6) (w1 : good n (byA B t) (k' - 2) p = true → ∀ B', MV c0 s0 B B' (B (a + 3) s) p u → Lp h1 d lv hgt Q (k + 1) B') (w0 : ¬ good n (byA B t) (k' - 2) p = true → Fl h1 d lv hgt Q k B) : Lp h1 d lv hgt Q k B := by
  have hW0 := hW
  have hA0 := hA
  obtain ⟨w3, w5, w4, wt, wn, wr, -⟩ := hW
  obtain ⟨a6, a7, a8⟩ := hA
  have et : (B 102 3).toNat = a := by omega
  have et4 : (B 102 4).toNat = t := by omega
  refine Lp_adv (by omega) hS k0 k1 (by omega) ⟨by omega, by omega⟩ ?_
  obtain ⟨d, rfl⟩ : ∃ d', d = d' + 1 := ⟨d - 1, by omega⟩
  have hM := MV_nx (x := B (a + 3) s) hS hD hA0
  have hb := byA_lt wn hp.1 (p := p)
  have hgo : ob 5 a ∧ 0 ≤ s ∧ s < 608 := ⟨w5, by omega, hs.2⟩
  have hwe : weV B = edg n (byA B t) p := by
    unfold weV edg
    rw [et4, a7]
    congr 1
    · by_cases z : 0 < p
      · rw [decide_eq_true z, Bool.true_and]
      · rw [decide_eq_false z, Bool.false_and]
        have : byA B t (p - 1) = -1 := by unfold byA; rw [if_neg (by omega)]
        rw [this]
        decide
    · by_cases z : p < n
      · rw [decide_eq_true z, Bool.true_and]
      · rw [decide_eq_false z, Bool.false_and, hb.2 z]
        decide
  have hwo : weO B := ⟨by rw [et4]; exact wt, by rw [et4]; exact bOK_n hW0, ⟨by omega, by omega⟩, ⟨by omega, by omega⟩⟩
  rcases (by omega : k' = 3 ∨ k' = 4 ∨ k' = 5 ∨ k' = 6) with e | e | e | e <;> subst e
  · refine adv_3 (by omega) hS (by rw [et]; exact w5) (by omega) (by omega) (by rw [et, a6]; exact hk) ?_
    rw [et, a6, a7]
    unfold good at w1 w0
    rw [if_pos (by decide), decide_eq_true_iff] at w1 w0
    exact ⟨⟨by omega, by omega⟩, fun q => ⟨hS, Or.inr ⟨rfl, w0 q⟩⟩, fun q => ⟨hgo.1, hgo.2.1, hgo.2.2, fun z => absurd z (by decide), fun _ => ⟨hM.1, Or.inl ⟨rfl, w1 q _ hM⟩⟩⟩⟩
  · refine adv_4 (by omega) hS (by rw [et]; exact w5) (by omega) (by omega) (by rw [et, a6]; exact hk) ?_
    rw [et, et4, a6, a7, wn]
    unfold good at w1 w0
    rw [if_neg (by decide), if_pos (by decide), decide_eq_true_iff] at w1 w0
    exact ⟨wt, ⟨by omega, by omega⟩, ⟨by omega, by omega⟩, fun q => ⟨hS, Or.inr ⟨rfl, w0 q⟩⟩, fun q => ⟨hgo.1, hgo.2.1, hgo.2.2, fun z => absurd z (by decide), fun _ => ⟨hM.1, Or.inl ⟨rfl, w1 q _ hM⟩⟩⟩⟩
  · refine adv_5 (by omega) hS (by rw [et]; exact w5) (by omega) (by omega) (by rw [et, a6]; exact hk) ?_
    rw [et, a6, hwe]
    unfold good at w1 w0
    rw [if_neg (by decide), if_neg (by decide), if_pos (by decide)] at w1 w0
    exact ⟨hwo, fun q => ⟨hS, Or.inr ⟨rfl, w0 (by rw [bi_z.mp q]; decide)⟩⟩, fun q => ⟨hgo.1, hgo.2.1, hgo.2.2, fun z => absurd z (by decide), fun _ => ⟨hM.1, Or.inl ⟨rfl, w1 (bi_n0.mp q) _ hM⟩⟩⟩⟩
  · refine adv_6 (by omega) hS (by rw [et]; exact w5) (by omega) (by omega) (by rw [et, a6]; exact hk) ?_
    rw [et, a6, hwe]
    unfold good at w1 w0
    rw [if_neg (by decide), if_neg (by decide), if_neg (by decide)] at w1 w0
    exact ⟨hwo, fun q => ⟨hS, Or.inr ⟨rfl, w0 (by rw [bi_n0.mp q]; decide)⟩⟩, fun q => ⟨hgo.1, hgo.2.1, hgo.2.2, fun z => absurd z (by decide), fun _ => ⟨hM.1, Or.inl ⟨rfl, w1 (by rw [bi_z.mp q]; rfl) _ hM⟩⟩⟩⟩
theorem L_rd (hd : 8 ≤ d) (hS : SH B) (hD : DI c0 s0 B) (hW : WCx a t n te B) (hA : AtS B s p u) (hs : 1 ≤ s ∧ s < 608) (k0 : 0 ≤ k) (k1 : k < 1000000000) (hk : B (a + 1) s = 16) (hu : 0 ≤ u ∧ u ≤ 11) (hv : R32 (B (a + 2) s)) (w1 : B (a + 2) s ≤ u → ∀ B', MV c0 s0 B B' (B (a + 3) s) p (B (a + 2) s - 1) → Lp h1 d lv hgt Q (k + 1) B') (w0 : ¬ B (a + 2) s ≤ u → Fl h1 d lv hgt Q k B) : Lp h1 d lv hgt Q k B := by
  obtain ⟨w3, w5, w4, wt, wn, wr, -⟩ := hW
  obtain ⟨a6, a7, a8⟩ := hA
  have et : (B 102 3).toNat = a := by omega
  have al := pr_lt w5
  refine Lp_adv (by omega) hS k0 k1 (by omega) ⟨by omega, by omega⟩ ?_
  obtain ⟨d, rfl⟩ : ∃ d', d = d' + 1 := ⟨d - 1, by omega⟩
  refine adv_16 (by omega) hS (by rw [et]; exact w5) (by omega) (by omega) (by rw [et, a6]; exact hk) ?_
  rw [et, a6]
  obtain ⟨d, rfl⟩ : ∃ d', d = d' + 1 := ⟨d - 1, by omega⟩
  refine c_Wa_endRound_0_ok (by omega) hS ?_
  unfold c_Wa_endRound_0
  have f1 : ∀ x, x ≠ 8 → (u2 B 102 8 (B (a + 2) s - 1)) 102 x = B 102 x := fun x q8 => u2_idx q8
  have f2 : ∀ x, (u2 B 102 8 (B (a + 2) s - 1)) (a + 3) x = B (a + 3) x := fun x => u2_bank (by omega)
  rw [f1 3 (by decide), f1 6 (by decide), et, a6, a8, f2]
  refine ⟨⟨by omega, by omega⟩, hv, fun q => ⟨w5, by omega, hs.2, ?_⟩, fun q => ⟨0, rfl, hS, ?_⟩⟩
  · have hM : MV c0 s0 B (u2 (u2 B 102 8 (B (a + 2) s - 1)) 102 6 (B (a + 3) s)) (B (a + 3) s) p (B (a + 2) s - 1) := by
      refine MV_in hS hD ⟨u2_same, by rw [u2_idx (by decide), u2_idx (by decide)]; exact a7, by rw [u2_idx (by decide), u2_same]⟩ (fun b y hb => ?_)
      by_cases e : b = 102
      · have := hb e
        subst e
        rw [u2_idx this.1, u2_idx this.2.2]
      · rw [u2_bank e, u2_bank e]
    refine ⟨1, rfl, hM.1, ?_⟩
    unfold c_Wa_advance_177
    exact ⟨Or.inr rfl, hM.1, Or.inl ⟨rfl, w1 (by omega) _ hM⟩⟩
  · unfold c_Wa_advance_177
    exact ⟨Or.inl rfl, hS, Or.inr ⟨rfl, w0 (by omega)⟩⟩
theorem PU.at {B1 : qB} {x : Int} (h : PU c0 s0 B B1 x) (b : Nat) (y : Int) (hb : b < 112) (h3 : b ≠ 103) (h4 : b ≠ 104) : B1 b y = B b y := h.2.2.2.2.2.2.2.1 b y hb h3 h4
theorem L_sp (hd : 9 ≤ d) (hS : SH B) (hD : DI c0 s0 B) (hW : WCx a t n te B) (hA : AtS B s p u) (hs : 1 ≤ s ∧ s < 608) (hp : 0 ≤ p ∧ p ≤ n) (hu : 0 ≤ u ∧ u ≤ 11) (k0 : 0 ≤ k) (k1 : k < 1000000000) (hz : B 103 1 < 1048576) (hk : B (a + 1) s = 15) (hκ : 0 ≤ keV B s p ∧ keV B s p / 8 < el B (fe B)) (w0 : u < rv B (keV B s p) → Fl h1 d lv hgt Q k B) (w1 : ¬ u < rv B (keV B s p) → ∀ B1, PU c0 s0 B B1 (pkV 0 s u p) → ∀ B', MV c0 s0 B1 B' (B (a + 3) s) p u → Lp h1 d lv hgt Q (k + 1) B') : Lp h1 d lv hgt Q k B := by
  obtain ⟨w3, w5, w4, wt, wn, wr, -⟩ := hW
  have hA0 := hA
  obtain ⟨a6, a7, a8⟩ := hA
  have et : (B 102 3).toNat = a := by omega
  have et4 : (B 102 4).toNat = t := by omega
  have al := pr_lt w5
  refine Lp_adv (by omega) hS k0 k1 (by omega) ⟨by omega, by omega⟩ ?_
  obtain ⟨d, rfl⟩ : ∃ d', d = d' + 1 := ⟨d - 1, by omega⟩
  refine adv_15 (by omega) hS (by rw [et]; exact w5) (by omega) (by omega) (by rw [et, a6]; exact hk) ?_
  obtain ⟨d, rfl⟩ : ∃ d', d = d' + 1 := ⟨d - 1, by omega⟩
  refine c_Wa_chooseFirst_0_ok (by omega) hS ?_
  unfold c_Wa_chooseFirst_0
  rw [et, et4, a6, a7, a8]
  refine ⟨w5, wt, by omega, hs.2, R_fhas (by omega) hS hD hκ.1 hκ.2 ⟨by omega, by omega⟩ ⟨_, rfl, hS, ?_⟩⟩
  unfold c_Wa_chooseFirst_23
  rw [a6, a7, a8]
  by_cases hh : u < rv B (keV B s p)
  · rw [if_pos hh]
    refine ⟨⟨by decide, by decide⟩, fun q => absurd q (by decide), fun _ => ⟨0, rfl, hS, ?_⟩⟩
    unfold c_Wa_advance_171
    exact ⟨Or.inl rfl, hS, Or.inr ⟨rfl, w0 hh⟩⟩
  · rw [if_neg hh]
    refine ⟨⟨by decide, by decide⟩, fun _ => ⟨⟨by decide, by decide, by omega, by omega, hu.1, by omega, hp.1, by omega⟩, ?_⟩, fun q => absurd rfl q⟩
    have h9 := hD.pile.2.2.2.2.2
    refine R_ppush (c0 := c0) (s0 := s0) (by omega) hS hD h9.1 hz (fun B1 hB1 => ⟨rfl, hB1.1, ?_⟩)
    have b2 : ∀ y, B1 102 y = B 102 y := fun y => hB1.at 102 y (by decide) (by decide) (by decide)
    have b3 : B1 (a + 3) s = B (a + 3) s := hB1.at _ _ (by omega) (by omega) (by omega)
    unfold c_Wa_chooseFirst_51
    rw [b2, b2, et, a6, b3]
    have hA1 : AtS B1 s p u := ⟨by rw [b2]; exact a6, by rw [b2]; exact a7, by rw [b2]; exact a8⟩
    have hM := MV_nx (x := B (a + 3) s) hB1.1 hB1.2.1 hA1
    refine ⟨w5, by omega, hs.2, 1, rfl, hM.1, ?_⟩
    unfold c_Wa_advance_171
    exact ⟨Or.inr rfl, hM.1, Or.inl ⟨rfl, w1 hh B1 hB1 _ hM⟩⟩
theorem L_mk {i : Int} (hd : 9 ≤ d) (hS : SH B) (hD : DI c0 s0 B) (hW : WCx a t n te B) (hA : AtS B s p u) (hs : 1 ≤ s ∧ s < 608) (hp : 0 ≤ p ∧ p ≤ n) (k0 : 0 ≤ k) (k1 : k < 1000000000) (hz : B 103 1 < 1048576) (hk : B (a + 1) s = 17) (hi : B (a + 2) s = i) (hi0 : 0 ≤ i ∧ i < 20) (hm : -1 ≤ B 107 i ∧ B 107 i ≤ 1000) (w0 : B 107 i = p → ∀ B', MV c0 s0 B B' (B (a + 3) s) p u → Lp h1 d lv hgt Q (k + 1) B') (w1 : ¬ B 107 i = p → ∀ B1, PU c0 s0 B B1 (pkV 2 i 0 (B 107 i + 1)) → ∀ B', MV c0 s0 (u2 B1 107 i p) B' (B (a + 3) s) p u → Lp h1 d lv hgt Q (k + 1) B') : Lp h1 d lv hgt Q k B := by
  obtain ⟨w3, w5, w4, wt, wn, wr, -⟩ := hW
  have hA0 := hA
  obtain ⟨a6, a7, a8⟩ := hA
  have et : (B 102 3).toNat = a := by omega
  have al := pr_lt w5
  refine Lp_adv (by omega) hS k0 k1 (by omega) ⟨by omega, by omega⟩ ?_
  obtain ⟨d, rfl⟩ : ∃ d', d = d' + 1 := ⟨d - 1, by omega⟩
  refine adv_17 (by omega) hS (by rw [et]; exact w5) (by omega) (by omega) (by rw [et, a6]; exact hk) ?_
  rw [et, a6, hi]
  obtain ⟨d, rfl⟩ : ∃ d', d = d' + 1 := ⟨d - 1, by omega⟩
  refine c_Wa_setMark_0_ok (by omega) hS ?_
  unfold c_Wa_setMark_0
  rw [a7, et, a6]
  refine ⟨hi0.1, hi0.2, ⟨by omega, by omega⟩, ⟨by omega, by omega⟩, fun q => ⟨w5, by omega, hs.2, ?_⟩, fun q => ⟨⟨by decide, by decide, hi0.1, by omega, by decide, by decide, by omega, by omega⟩, ?_⟩⟩
  · have hM := MV_nx (x := B (a + 3) s) hS hD hA0
    refine ⟨1, rfl, hM.1, ?_⟩
    unfold c_Wa_advance_183
    exact ⟨Or.inr rfl, hM.1, Or.inl ⟨rfl, w0 q _ hM⟩⟩
  · have h9 := hD.pile.2.2.2.2.2
    refine R_ppush (c0 := c0) (s0 := s0) (by omega) hS hD h9.1 hz (fun B1 hB1 => ⟨rfl, hB1.1, ?_⟩)
    have b2 : ∀ y, B1 102 y = B 102 y := fun y => hB1.at 102 y (by decide) (by decide) (by decide)
    have b3 : B1 (a + 3) s = B (a + 3) s := hB1.at _ _ (by omega) (by omega) (by omega)
    have hS2 : SH (u2 B1 107 i p) := SH_u2 hB1.1 hi0.1
    have hD2 := (DI_u2 (b := 107) (x := i) (z := p) hB1.2.1 hi0.1 (by decide) (fun q => absurd q (by decide)) (fun q => absurd q (by decide))).1
    have c2 : ∀ y, (u2 B1 107 i p) 102 y = B 102 y := fun y => by rw [u2_bank (by decide)]; exact b2 y
    have c3 : (u2 B1 107 i p) (a + 3) s = B (a + 3) s := by rw [u2_bank (by omega)]; exact b3
    unfold c_Wa_setMark_32
    rw [b2, a7, c2, c2, et, a6, c3]
    have hA1 : AtS (u2 B1 107 i p) s p u := ⟨by rw [c2]; exact a6, by rw [c2]; exact a7, by rw [c2]; exact a8⟩
    have hM := MV_nx (x := B (a + 3) s) hS2 hD2 hA1
    refine ⟨hi0.1, hi0.2, w5, by omega, hs.2, 1, rfl, hM.1, ?_⟩
    unfold c_Wa_advance_183
    exact ⟨Or.inr rfl, hM.1, Or.inl ⟨rfl, w1 q B1 hB1 _ hM⟩⟩
end ROW
