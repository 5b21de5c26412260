/-! THE CLASS: the pile and the failures, which may grow -/
abbrev pe (B : qB) : Nat := (B 103 0).toNat
abbrev fe (B : qB) : Nat := (B 105 0).toNat
/-- the record of a key -/
def rv (B : qB) (κ : Int) : Int := nib (B (fe B) (κ / 8)) (κ % 8).toNat
/-- counters, and the rows of pile and failures -/
def DI (c0 s0 : Int) (B : qB) : Prop := (B 2000000000 (-1) = 0 ∧ 112 ≤ B 2000000000 0 ∧ 0 ≤ B 2000000000 1) ∧ (c0 ≤ 900000000 ∧ 160 ≤ B 2000000000 0 ∧ ∀ i : Nat, (112 ≤ i ∧ i < 160) ∨ i = 1000000001 → B i (-1) = 0) ∧ ∃ kp kf : Nat, (11 ≤ kp ∧ kp ≤ 20) ∧ (10 ≤ kf ∧ kf ≤ 16) ∧ B (pe B) (-1) = 101 + 10 * ((2 ^ kp : Nat) : Int) ∧ B (fe B) (-1) = 101 + 10 * ((2 ^ kf : Nat) : Int) ∧ ((pe B = 104 ∨ 112 ≤ pe B) ∧ ((pe B : Nat) : Int) < B 2000000000 0) ∧ ((fe B = 106 ∨ 112 ≤ fe B) ∧ ((fe B : Nat) : Int) < B 2000000000 0) ∧ pe B ≠ fe B ∧ B 2000000000 0 ≤ c0 + kp + kf ∧ B 2000000000 1 ≤ s0 + 2 * (((2 ^ kp : Nat) : Int) + ((2 ^ kf : Nat) : Int)) ∧ 0 ≤ B 103 1 ∧ B 103 1 ≤ ((2 ^ kp : Nat) : Int)
theorem p2_le {a b : Nat} (h : a ≤ b) : ((2 ^ a : Nat) : Int) ≤ ((2 ^ b : Nat) : Int) := by
  have := Nat.pow_le_pow_right (show 0 < 2 by decide) h
  omega
theorem DI.pile {c0 s0 : Int} {B : qB} (h : DI c0 s0 B) : isA B 1 (pe B) (el B (pe B)) ∧ 2048 ≤ el B (pe B) ∧ el B (pe B) ≤ 1048576 ∧ pe B < 1000000000 ∧ (∃ kp : Nat, 11 ≤ kp ∧ kp ≤ 20 ∧ el B (pe B) = ((2 ^ kp : Nat) : Int)) ∧ 0 ≤ B 103 1 ∧ B 103 1 ≤ el B (pe B) := by
  obtain ⟨h1, h2, kp, kf, h3, h4, h5, h6, h7, h8, h9, h10, h11, h12, h13⟩ := h
  have e : el B (pe B) = ((2 ^ kp : Nat) : Int) := by unfold el; rw [h5]; omega
  have l1 := p2_le h3.1
  have l2 := p2_le h3.2
  have q1 : ((2 ^ 11 : Nat) : Int) = 2048 := by decide
  have q2 : ((2 ^ 20 : Nat) : Int) = 1048576 := by decide
  refine ⟨⟨by rw [h5, e]; omega, by decide, by omega⟩, by omega, by omega, by omega, ⟨kp, h3.1, h3.2, e⟩, h12, by omega⟩
theorem DI.fail {c0 s0 : Int} {B : qB} (h : DI c0 s0 B) : isA B 1 (fe B) (el B (fe B)) ∧ 1024 ≤ el B (fe B) ∧ el B (fe B) ≤ 65536 ∧ fe B < 1000000000 := by
  obtain ⟨h1, h2, kp, kf, h3, h4, h5, h6, h7, h8, h9, h10, h11, h12, h13⟩ := h
  have e : el B (fe B) = ((2 ^ kf : Nat) : Int) := by unfold el; rw [h6]; omega
  have l1 := p2_le h4.1
  have l2 := p2_le h4.2
  have q1 : ((2 ^ 10 : Nat) : Int) = 1024 := by decide
  have q2 : ((2 ^ 16 : Nat) : Int) = 65536 := by decide
  exact ⟨⟨by rw [h6, e]; omega, by decide, by omega⟩, by omega, by omega, by omega⟩
/-- a change of a cell keeps the rows -/
theorem DI_u2 {c0 s0 : Int} {B : qB} {b : Nat} {x z : Int} (h : DI c0 s0 B) (hx : 0 ≤ x) (hb : b < 1000000000) (h3 : b = 103 → x ≠ 0 ∧ x ≠ 1) (h5 : b = 105 → x ≠ 0) : DI c0 s0 (u2 B b x z) ∧ pe (u2 B b x z) = pe B ∧ fe (u2 B b x z) = fe B := by
  have ep : pe (u2 B b x z) = pe B := by
    unfold pe
    by_cases e : b = 103
    · subst e; rw [u2_idx (fun q => (h3 rfl).1 q.symm)]
    · rw [u2_bank (fun q => e q.symm)]
  have ef : fe (u2 B b x z) = fe B := by
    unfold fe
    by_cases e : b = 105
    · subst e; rw [u2_idx (fun q => h5 rfl q.symm)]
    · rw [u2_bank (fun q => e q.symm)]
  have em : ∀ a, (u2 B b x z) a (-1) = B a (-1) := fun a => u2_idx (by omega)
  have ec : ∀ y, (u2 B b x z) 2000000000 y = B 2000000000 y := fun y => u2_bank (by omega)
  have es : (u2 B b x z) 103 1 = B 103 1 := by
    by_cases e : b = 103
    · subst e; rw [u2_idx (fun q => (h3 rfl).2 q.symm)]
    · rw [u2_bank (fun q => e q.symm)]
  refine ⟨?_, ep, ef⟩
  unfold DI at h ⊢
  simp only [ep, ef, em, ec, es]
  exact h
theorem DI_sz {c0 s0 : Int} {B : qB} {z : Int} (h : DI c0 s0 B) (h0 : 0 ≤ z) (h1 : z ≤ el B (pe B)) : DI c0 s0 (u2 B 103 1 z) ∧ pe (u2 B 103 1 z) = pe B ∧ fe (u2 B 103 1 z) = fe B := by
  have ep : pe (u2 B 103 1 z) = pe B := by unfold pe; rw [u2_idx (by decide)]
  have ef : fe (u2 B 103 1 z) = fe B := by unfold fe; rw [u2_bank (by decide)]
  have em : ∀ a, (u2 B 103 1 z) a (-1) = B a (-1) := fun a => u2_idx (by omega)
  have ec : ∀ y, (u2 B 103 1 z) 2000000000 y = B 2000000000 y := fun y => u2_bank (by omega)
  refine ⟨?_, ep, ef⟩
  obtain ⟨g1, g2, kp, kf, g3, g4, g5, g6, g7, g8, g9, g10, g11, g12, g13⟩ := h
  have e : el B (pe B) = ((2 ^ kp : Nat) : Int) := by unfold el; rw [g5]; omega
  refine ⟨by rw [em, ec, ec]; exact g1, ⟨g2.1, by rw [ec]; exact g2.2.1, fun i hi => by rw [em]; exact g2.2.2 i hi⟩, kp, kf, g3, g4, by rw [ep, em]; exact g5, by rw [ef, em]; exact g6, by rw [ep, ec]; exact g7, by rw [ef, ec]; exact g8, by rw [ep, ef]; exact g9, by rw [ec]; exact g10, by rw [ec]; exact g11, by rw [u2_same]; exact h0, by rw [u2_same]; omega⟩
/-- what the walker leaves as it is: all but its own place, the pile, the records, the marks -/
def WF (B B' : qB) : Prop := (∀ b x, b < 112 → b ≠ 103 → b ≠ 104 → b ≠ 106 → b ≠ 107 → (b = 102 → x ≠ 6 ∧ x ≠ 7 ∧ x ≠ 8) → B' b x = B b x) ∧ ∀ x, B' 1000000000 x = B 1000000000 x
theorem WF.refl {B : qB} : WF B B := ⟨fun _ _ _ _ _ _ _ _ => rfl, fun _ => rfl⟩
theorem WF.tr {B B1 B2 : qB} (h : WF B B1) (g : WF B1 B2) : WF B B2 := ⟨fun b x a1 a2 a3 a4 a5 a6 => (g.1 b x a1 a2 a3 a4 a5 a6).trans (h.1 b x a1 a2 a3 a4 a5 a6), fun x => (g.2 x).trans (h.2 x)⟩
theorem WF_u2 {c0 s0 : Int} {B : qB} {b : Nat} {x z : Int} (hD : DI c0 s0 B) (h : b = 103 ∨ b = 104 ∨ b = 106 ∨ b = 107 ∨ (b = 102 ∧ (x = 6 ∨ x = 7 ∨ x = 8)) ∨ b = pe B ∨ b = fe B) : WF B (u2 B b x z) := by
  have hp := hD.pile.2.2.2.1
  have hf := hD.fail.2.2.2
  obtain ⟨-, -, kp, kf, -, -, -, -, h7, h8, -⟩ := hD
  refine ⟨fun a y a1 a2 a3 a4 a5 a6 => ?_, fun y => ?_⟩
  · by_cases e : a = b
    · subst e
      have : y ≠ x := by
        intro e2
        subst e2
        rcases h with q | q | q | q | ⟨q, q2⟩ | q | q
        · exact a2 q
        · exact a3 q
        · exact a4 q
        · exact a5 q
        · have := a6 q; omega
        · omega
        · omega
      exact u2_idx this
    · exact u2_bank e
  · exact u2_bank (by omega)
section PI
variable {h1 : qH} {d : Nat} {B : qB} {Q : qO → qB → Prop} {c0 s0 : Int}
/-- an entry more on the pile -/
def PU (c0 s0 : Int) (B B' : qB) (x : Int) : Prop := SH B' ∧ DI c0 s0 B' ∧ B' 103 1 = B 103 1 + 1 ∧ B' (pe B') (B 103 1) = x ∧ (∀ k, 0 ≤ k → k < B 103 1 → B' (pe B') k = B (pe B) k) ∧ fe B' = fe B ∧ (∀ i, B' (fe B) i = B (fe B) i) ∧ (∀ b x, b < 112 → b ≠ 103 → b ≠ 104 → B' b x = B b x) ∧ (∀ x, B' 1000000000 x = B 1000000000 x)
theorem PU.wf {B' : qB} {x : Int} (h : PU c0 s0 B B' x) : WF B B' := ⟨fun b y a1 a2 a3 _ _ _ => h.2.2.2.2.2.2.2.1 b y a1 a2 a3, h.2.2.2.2.2.2.2.2⟩
theorem PU_in {x : Int} (hS : SH B) (hD : DI c0 s0 B) (h0 : 0 ≤ B 103 1) (h1 : B 103 1 < el B (pe B)) : PU c0 s0 B (u2 (u2 B (pe B) (B 103 1) x) 103 1 (B 103 1 + 1)) x := by
  have hp := hD.pile.2.2.2.1
  have hne : pe B ≠ fe B := by
    obtain ⟨-, -, kp, kf, -, -, -, -, -, -, h9, -⟩ := hD
    exact h9
  have hp4 : pe B = 104 ∨ 112 ≤ pe B := by
    obtain ⟨-, -, kp, kf, -, -, -, -, h7, -⟩ := hD
    exact h7.1
  have hf4 : fe B = 106 ∨ 112 ≤ fe B := by
    obtain ⟨-, -, kp, kf, -, -, -, -, h7, h8, -⟩ := hD
    exact h8.1
  obtain ⟨D1, p1, f1⟩ := DI_u2 (x := B 103 1) (z := x) hD h0 hp (b := pe B) (fun q => by omega) (by omega)
  have ee : el (u2 B (pe B) (B 103 1) x) (pe B) = el B (pe B) := by
    unfold el
    rw [u2_idx (by omega)]
  obtain ⟨D2, p2, f2⟩ := DI_sz (z := B 103 1 + 1) D1 (by omega) (by rw [p1, ee]; omega)
  refine ⟨SH_u2 (SH_u2 hS h0) (by decide), D2, u2_same, ?_, fun k k0 k1 => ?_, by rw [f2, f1], fun i => ?_, fun b y b1 b2 b3 => ?_, fun y => ?_⟩
  · rw [p2, p1, u2_bank (by omega), u2_same]
  · rw [p2, p1, u2_bank (by omega), u2_idx (by omega)]
  · rw [u2_bank (by omega), u2_bank (fun q => hne q.symm)]
  · rw [u2_bank b2, u2_bank (by omega)]
  · rw [u2_bank (by decide), u2_bank (by omega)]
theorem R_ppush {x : Int} (hd : 2 ≤ d) (hS : SH B) (hD : DI c0 s0 B) (h0 : 0 ≤ B 103 1) (h9 : B 103 1 < 1048576) (w : ∀ B', PU c0 s0 B B' x → Q (.inl none) B') : qY h1 d n_Pi_push 0 [some (.ref 103), some (iv x)] [] B Q := by
  obtain ⟨d, rfl⟩ : ∃ d', d = d' + 1 := ⟨d - 1, by omega⟩
  obtain ⟨g1, g2, g3, g4, ⟨kp, g5, g6, g7⟩, g8, g9⟩ := hD.pile
  refine c_Pi_push_0_ok (by omega) hS ?_
  unfold c_Pi_push_0
  have k40 : ∀ B1, SH B1 → DI c0 s0 B1 → B1 103 1 = B 103 1 → B 103 1 < el B1 (pe B1) → (∀ B', PU c0 s0 B1 B' x → Q (.inl none) B') → c_Pi_push_40 h1 d x B1 Q := by
    intro B1 hS1 hD1 e1 hlt w1
    obtain ⟨q1, q2, q3, q4, -⟩ := hD1.pile
    have q2r : 2048 ≤ el B1 (B1 103 0).toNat := q2
    have q3r : el B1 (B1 103 0).toNat ≤ 1048576 := q3
    have hltr : B 103 1 < el B1 (B1 103 0).toNat := hlt
    unfold c_Pi_push_40
    rw [e1]
    refine ⟨⟨by omega, by omega⟩, fun q => by omega, fun _ => ⟨q1, by omega, q4, ⟨by omega, by omega⟩, fun q => by omega, fun _ => ⟨h0, hlt, ?_⟩⟩⟩
    have e2 : (u2 B1 (B1 103 0).toNat (B 103 1) x) 103 1 = B1 103 1 := by
      rcases hD1 with ⟨-, -, kp, kf, -, -, -, -, h7, -⟩
      have := h7.1
      unfold pe at this
      exact u2_bank (by omega)
    rw [e2, e1]
    have := PU_in (x := x) hS1 hD1 (by omega) (by rw [e1]; exact hlt)
    rw [e1] at this
    exact w1 _ this
  have g2r : 2048 ≤ el B (B 103 0).toNat := g2
  have g3r : el B (B 103 0).toNat ≤ 1048576 := g3
  have g9r : B 103 1 ≤ el B (B 103 0).toNat := g9
  refine ⟨g1, by omega, g4, ⟨by omega, by omega⟩, ⟨by omega, by omega⟩, fun q => k40 B hS hD rfl q w, fun q => ⟨fun q2 => ?_, fun q2 => ?_⟩⟩
  · omega
  · -- the pile grows
    have hL : el B (B 103 0).toNat = ((2 ^ kp : Nat) : Int) := g7
    have hk : kp < 20 := by
      rcases Nat.lt_or_ge kp 20 with q3 | q3
      · exact q3
      · have := p2_le q3
        have q2' : ((2 ^ 20 : Nat) : Int) = 1048576 := by decide
        omega
    have e2 : ((2 ^ (kp + 1) : Nat) : Int) = ((2 ^ kp : Nat) : Int) * 2 := by rw [Nat.pow_succ]; omega
    have l1 := p2_le g5
    have q11 : ((2 ^ 11 : Nat) : Int) = 2048 := by decide
    obtain ⟨d, rfl⟩ : ∃ d', d = d' + 1 := ⟨d - 1, by omega⟩
    have hD0 := hD
    obtain ⟨m1, m2, kp', kf, m3, m4, m5, m6, m7, m8, m9, m10, m11, m12, m13⟩ := hD
    have ekp : ((2 ^ kp' : Nat) : Int) = ((2 ^ kp : Nat) : Int) := by
      have hL' := hL
      have : el B (pe B) = ((2 ^ kp' : Nat) : Int) := by unfold el; rw [m5]; omega
      omega
    have ekp2 : kp' = kp := (Nat.pow_right_inj (show 1 < 2 by decide)).mp (by omega)
    subst ekp2
    have hnN : (B 2000000000 0).toNat < 1000000000 := by omega
    have hN0 : ∀ b x, b ≠ (B 2000000000 0).toNat → b ≠ 2000000000 → nwC B (el B (B 103 0).toNat * 2) b x = B b x := fun b x w1 w2 => by
      unfold nwC
      rw [if_neg w1, if_neg w2]
    refine c_Ar_copyOf_0_ok (by omega) hS g1 (by omega) g4 (by omega) ?_
    have hNm : nwC B (el B (B 103 0).toNat * 2) (B 2000000000 0).toNat (-1) = 101 + 10 * (el B (B 103 0).toNat * 2) := by
      unfold nwC
      rw [if_pos rfl, if_pos rfl]
    have hNS : SH (nwC B (el B (B 103 0).toNat * 2)) := ⟨fun a ha => by rw [hN0 a _ (by omega) (by omega)]; exact hS.1 a ha, by rw [hN0 _ _ (by omega) (by decide)]; exact hS.2⟩
    unfold c_Ar_copyOf_0
    have hmin : min (el B (B 103 0).toNat) (el B (B 103 0).toNat * 2) = el B (B 103 0).toNat := by omega
    rw [hmin]
    refine ⟨⟨m1.1, by omega, by omega, m1.2.2⟩, by omega, by omega, hNS, ⟨?_, by decide, by omega⟩, ⟨by omega, by omega⟩, ⟨by omega, by omega⟩, ⟨by rw [hNm]; omega, by decide, by omega⟩, hnN, by omega, by omega, by omega, ?_⟩
    · rw [hN0 _ _ (by unfold pe at m7; omega) (by unfold pe at m7; omega)]
      exact g1.1
    · refine ⟨_, ((2 ^ (kp' + 1) : Nat) : Int), rfl, ⟨?_, by decide, by omega⟩, by omega, hnN, SH_cp hNS (by decide), ?_⟩
      · unfold cpC
        rw [if_neg (by omega), hNm, hL]
        omega
      · -- the memory with the longer row
        unfold c_Pi_push_37
        have hc : ∀ b y, b ≠ (B 2000000000 0).toNat → cpC (nwC B (el B (B 103 0).toNat * 2)) (B 103 0).toNat 0 (B 2000000000 0).toNat 0 (el B (B 103 0).toNat) b y = nwC B (el B (B 103 0).toNat * 2) b y := fun b y w1 => by
          unfold cpC
          rw [if_neg (fun q => w1 q.1)]
        have hcm : cpC (nwC B (el B (B 103 0).toNat * 2)) (B 103 0).toNat 0 (B 2000000000 0).toNat 0 (el B (B 103 0).toNat) (B 2000000000 0).toNat (-1) = 101 + 10 * (el B (B 103 0).toNat * 2) := by
          unfold cpC
          rw [if_neg (by omega), hNm]
        have hcc : ∀ y, 0 ≤ y → y < el B (B 103 0).toNat → cpC (nwC B (el B (B 103 0).toNat * 2)) (B 103 0).toNat 0 (B 2000000000 0).toNat 0 (el B (B 103 0).toNat) (B 2000000000 0).toNat y = B (B 103 0).toNat y := fun y y0 y1 => by
          unfold cpC
          rw [if_pos ⟨rfl, by omega, by omega⟩, show y - 0 + 0 = y by omega, hN0 _ _ (by unfold pe at m7; omega) (by unfold pe at m7; omega)]
        have hk0 : nwC B (el B (B 103 0).toNat * 2) 2000000000 0 = B 2000000000 0 + 1 := by
          unfold nwC
          rw [if_neg (by omega), if_pos rfl, if_pos rfl]
        have hk1 : nwC B (el B (B 103 0).toNat * 2) 2000000000 1 = B 2000000000 1 + el B (B 103 0).toNat * 2 := by
          unfold nwC
          rw [if_neg (by omega), if_pos rfl, if_neg (by decide), if_pos rfl]
        have hkm : nwC B (el B (B 103 0).toNat * 2) 2000000000 (-1) = B 2000000000 (-1) := by
          unfold nwC
          rw [if_neg (by omega), if_pos rfl, if_neg (by decide), if_neg (by decide)]
        have hS9 := SH_cp (a0 := (B 103 0).toNat) (sp := 0) (a1 := (B 2000000000 0).toNat) (dp := 0) (n := el B (B 103 0).toNat) hNS (by decide)
        revert hc hcm hcc hS9
        generalize cpC (nwC B (el B (B 103 0).toNat * 2)) (B 103 0).toNat 0 (B 2000000000 0).toNat 0 (el B (B 103 0).toNat) = C
        intro hc hcm hcc hS9
        have hC : ∀ b y, b ≠ (B 2000000000 0).toNat → b ≠ 2000000000 → C b y = B b y := fun b y w1 w2 => by rw [hc b y w1, hN0 b y w1 w2]
        have ep : pe (u2 C 103 0 (((B 2000000000 0).toNat : Nat) : Int)) = (B 2000000000 0).toNat := by
          unfold pe
          rw [u2_same]
          omega
        have ef : fe (u2 C 103 0 (((B 2000000000 0).toNat : Nat) : Int)) = fe B := by
          unfold fe
          rw [u2_bank (by decide), hC _ _ (by omega) (by decide)]
        have eC : ∀ b y, b ≠ 103 → b ≠ (B 2000000000 0).toNat → b ≠ 2000000000 → (u2 C 103 0 (((B 2000000000 0).toNat : Nat) : Int)) b y = B b y := fun b y w0 w1 w2 => by rw [u2_bank w0, hC b y w1 w2]
        have eK : ∀ y, (u2 C 103 0 (((B 2000000000 0).toNat : Nat) : Int)) 2000000000 y = nwC B (el B (B 103 0).toNat * 2) 2000000000 y := fun y => by rw [u2_bank (by decide), hc _ _ (by omega)]
        have e31 : (u2 C 103 0 (((B 2000000000 0).toNat : Nat) : Int)) 103 1 = B 103 1 := by rw [u2_idx (by decide), hC _ _ (by omega) (by decide)]
        have eN : ∀ y, (u2 C 103 0 (((B 2000000000 0).toNat : Nat) : Int)) (B 2000000000 0).toNat y = C (B 2000000000 0).toNat y := fun y => u2_bank (by omega)
        have hSn : SH (u2 C 103 0 (((B 2000000000 0).toNat : Nat) : Int)) := SH_u2 hS9 (by decide)
        revert ep ef eC eK e31 eN hSn
        generalize u2 C 103 0 (((B 2000000000 0).toNat : Nat) : Int) = E
        intro ep ef eC eK e31 eN hSn
        have hfn : fe B ≠ (B 2000000000 0).toNat := by omega
        have hf3 : fe B ≠ 103 := by omega
        have hDn : DI c0 s0 E := by
          refine ⟨⟨by rw [eK, hkm]; exact m1.1, by rw [eK, hk0]; omega, by rw [eK, hk1]; omega⟩, ⟨m2.1, by rw [eK, hk0]; omega, fun i hi => by rw [eC _ _ (by omega) (by omega) (by omega)]; exact m2.2.2 i hi⟩, kp' + 1, kf, ⟨by omega, by omega⟩, m4, ?_, ?_, ⟨by rw [ep]; omega, by rw [ep, eK, hk0]; omega⟩, ⟨by rw [ef]; exact m8.1, by rw [ef, eK, hk0]; omega⟩, by rw [ep, ef]; exact fun q => hfn q.symm, by rw [eK, hk0]; omega, by rw [eK, hk1, hL]; omega, by omega, by omega⟩
          · rw [ep, eN, hcm, hL]; omega
          · rw [ef, eC _ _ hf3 hfn (by omega)]; exact m6
        refine k40 E hSn hDn e31 ?_ (fun B' hB' => w B' ?_)
        · have : el E (pe E) = ((2 ^ kp' : Nat) : Int) * 2 := by
            unfold el
            rw [ep, eN, hcm, hL]
            omega
          omega
        · obtain ⟨z1, z2, z3, z4, z5, z6, z7, z8, z9⟩ := hB'
          refine ⟨z1, z2, by omega, by rw [← e31]; exact z4, fun k k0 k1 => ?_, by rw [z6, ef], fun i => ?_, fun b y b1 b2 b3 => ?_, fun y => ?_⟩
          · rw [z5 k k0 (by omega), ep, eN]
            exact hcc k k0 (by omega)
          · have := z7 i
            rw [ef] at this
            rw [this, eC _ _ hf3 hfn (by omega)]
          · rw [z8 b y b1 b2 b3, eC _ _ b2 (by omega) (by omega)]
          · rw [z9, eC _ _ (by decide) (by omega) (by decide)]
end PI
