/-! THE CLASS AND THE REFERENCE: how their memories belong together between calls -/
/-- a row of bytes: n of them, those of f -/
def BY (C : qB) (a : Nat) (n : Int) (f : Int → Int) : Prop := C a 1 = n ∧ (0 ≤ n ∧ n ≤ bl a) ∧ ∀ i, 0 ≤ i → i < n → (-128 ≤ C (a + 1) i ∧ C (a + 1) i ≤ 127) ∧ iAnd (C (a + 1) i) 255 = f i
/-- the number of a program -/
def pa (p : Nat) : Nat := if p = 0 then 1 else 2 + 9 * p
/-- the latest matches -/
def FO (C : qB) (a : Nat) (B : qB) : Prop := C a 1 = B 14 0 ∧ (0 ≤ B 14 0 ∧ B 14 0 ≤ 301) ∧ ∀ i, 0 ≤ i → i < B 14 0 → C (a + 1) (2 * i) = B 10 i ∧ C (a + 1) (2 * i + 1) = B 11 i
/-- the set that is alone in a pattern -/
def OnA (C : qB) (a : Nat) : Option Nat → Prop
  | none => C a 12 = -1
  | some s => (0 ≤ C a 12 ∧ C a 12 < 200) ∧ ∀ c : Nat, c < 256 → s.testBit c = hoC C (a + 7) (C a 12) c
def PG (C B : qB) (p : Nat) : Prop := (B 6 (p : Int) = 0 → C (pa p) 10 = -1 ∧ C (pa p) 11 = -1) ∧ (¬ B 6 (p : Int) = 0 → PgI C (pa p) (tre B p) (B 8 p) ∧ TrO (tre B p) ∧ OnA C (pa p) (alB B p))
def cT (C B : qB) : Prop := ((C 0 8 = 84 ∧ C 0 9 = 86) ∨ (C 0 8 = 86 ∧ C 0 9 = 84)) ∧ BY C (C 0 8).toNat (B 2 0) (B 1) ∧ bOK C (C 0 9).toNat
def cF (C B : qB) : Prop := ((C 0 10 = 108 ∧ C 0 11 = 110) ∨ (C 0 10 = 110 ∧ C 0 11 = 108)) ∧ FO C (C 0 10).toNat B
def cG (C B : qB) : Prop := ∀ i, 0 ≤ i → i < 20 → C 83 i = if B 71 0 = 0 then -1 else B 50 i
def cX (C B : qB) : Prop := ∀ t : Nat, t < 4 → BY C (75 + 2 * t) (B 9 t) (txB B t)
def cPg (C B : qB) : Prop := ∀ p : Nat, p < 8 → PG C B p
/-- C: the class's memory, B: the reference's -/
def CIv (c0 s0 : Int) (C B : qB) : Prop := SH C ∧ DI c0 s0 C ∧ (CKB C ∧ WtI C) ∧ cT C B ∧ bOK C 88 ∧ cF C B ∧ C 0 12 = B 3 0 ∧ cG C B ∧ cX C B ∧ cPg C B
section CIF
variable {c0 s0 c1 s1 : Int} {C C' B B' : qB}
theorem pa_ob {p : Nat} (h : p < 8) : ob 5 (pa p) := by
  have : ∀ p : Fin 8, shp (pa p.1) = 5 + 1 ∧ pa p.1 < 112 := by decide +kernel
  exact ⟨(this ⟨p, h⟩).1, (this ⟨p, h⟩).2, by decide⟩
theorem tx_ob {t : Nat} (h : t < 4) : ob 1 (75 + 2 * t) ∧ bl (75 + 2 * t) = 1000 := by
  have : ∀ t : Fin 4, (shp (75 + 2 * t.1) = 1 + 1 ∧ 75 + 2 * t.1 < 112) ∧ bl (75 + 2 * t.1) = 1000 := by decide +kernel
  exact ⟨⟨(this ⟨t, h⟩).1.1, (this ⟨t, h⟩).1.2, by decide⟩, (this ⟨t, h⟩).2⟩
theorem ob84 : ob 1 84 ∧ bl 84 = 1200 := ⟨⟨by decide +kernel, by decide, by decide⟩, by decide +kernel⟩
theorem ob86 : ob 1 86 ∧ bl 86 = 1200 := ⟨⟨by decide +kernel, by decide, by decide⟩, by decide +kernel⟩
theorem ob88 : ob 1 88 ∧ bl 88 = 1000 := ⟨⟨by decide +kernel, by decide, by decide⟩, by decide +kernel⟩
theorem ob108 : ob 3 108 := ⟨by decide +kernel, by decide, by decide⟩
theorem ob110 : ob 3 110 := ⟨by decide +kernel, by decide, by decide⟩
theorem BY.fr {a : Nat} {n : Int} {f : Int → Int} (h : BY C a n f) (e1 : C' a 1 = C a 1) (e2 : ∀ i, C' (a + 1) i = C (a + 1) i) : BY C' a n f := ⟨e1.trans h.1, h.2.1, fun i i0 i1 => by rw [e2]; exact h.2.2 i i0 i1⟩
theorem BY.ok {a : Nat} {n : Int} {f : Int → Int} (h : BY C a n f) : bOK C a := by
  unfold bOK
  rw [h.1]
  exact h.2.1
theorem BY.at {a : Nat} {n : Int} {f : Int → Int} (h : BY C a n f) {i : Int} (i0 : 0 ≤ i) (i1 : i < n) : byA C a i = f i := by
  unfold byA
  rw [h.1, if_pos ⟨i0, i1⟩]
  exact (h.2.2 i i0 i1).2
theorem BY.out {a : Nat} {n : Int} {f : Int → Int} (h : BY C a n f) {i : Int} (i1 : ¬ (0 ≤ i ∧ i < n)) : byA C a i = -1 := by
  unfold byA
  rw [h.1, if_neg i1]
theorem BY.im {a : Nat} {n : Int} {f g : Int → Int} (h : BY C a n f) (e : ∀ i, 0 ≤ i → i < n → g i = f i) : BY C a n g := ⟨h.1, h.2.1, fun i i0 i1 => ⟨(h.2.2 i i0 i1).1, by rw [e i i0 i1]; exact (h.2.2 i i0 i1).2⟩⟩
theorem hoC_f8 {a : Nat} {s c : Int} (h : ∀ x, C' (a + 1) x = C (a + 1) x) : hoC C' a s c = hoC C a s c := by
  unfold hoC
  rw [h]
theorem SlI_fr {a : Nat} (h : ∀ j x, j ≤ 8 → C' (a + j) x = C (a + j) x) (g : SlI C a) : SlI C' a := by
  have e0 : ∀ x, C' a x = C a x := fun x => h 0 x (by decide)
  have e1 : ∀ x, C' (a + 1) x = C (a + 1) x := fun x => h 1 x (by decide)
  have e6 : ∀ x, C' (a + 6) x = C (a + 6) x := fun x => h 6 x (by decide)
  refine ⟨fun s q1 q2 => ?_, fun s s' q1 q2 q3 => ?_⟩
  · rw [e0] at q2
    rw [e0, e1, e6]
    exact g.1 s q1 q2
  · rw [e0] at q3
    rw [e1, e6, e6]
    exact g.2 s s' q1 q2 q3
theorem PgI_fr {a : Nat} {e : qT} {gr : Int} (h : ∀ j x, j ≤ 8 → C' (a + j) x = C (a + j) x) (g : PgI C a e gr) : PgI C' a e gr := by
  have e0 : ∀ x, C' a x = C a x := fun x => h 0 x (by decide)
  obtain ⟨⟨I, g1⟩, g2, g3, g4, g5, g6, g7, g8⟩ := g
  unfold PgI
  rw [e0, e0, e0, e0, e0]
  refine ⟨⟨I, ?_⟩, g2, g3, g4, SlI_fr h g5, g6, g7, g8⟩
  have hH : (fun (s : Int) (c : Nat) => some (hoC C' (a + 7) s c)) = (fun (s : Int) (c : Nat) => some (hoC C (a + 7) s c)) := by
    funext s c
    rw [hoC_f8 (fun x => h 8 x (by decide))]
  rw [hH]
  refine Ly_fr (P' := pvw C' a I) (fun j s j1 j2 _ _ => ?_) (Int.le_refl _) (Int.le_refl _) e 0 0 _ 0 0 0 g1
  unfold pvw
  split
  · rfl
  · exact h j s (by omega)
theorem OnA_fr {a : Nat} {o : Option Nat} (h : ∀ j x, j ≤ 8 → C' (a + j) x = C (a + j) x) (g : OnA C a o) : OnA C' a o := by
  have e0 : ∀ x, C' a x = C a x := fun x => h 0 x (by decide)
  cases o with
  | none => show C' a 12 = -1; rw [e0]; exact g
  | some s =>
    refine ⟨by rw [e0]; exact g.1, fun c hc => ?_⟩
    rw [e0, hoC_f8 (fun x => h 8 x (by decide))]
    exact g.2 c hc
theorem tre_eq {p : Int} (h4 : ∀ y, B' 4 y = B 4 y) (h6 : B' 6 p = B 6 p) : tre B' p = tre B p := (tre_fr (fun i _ _ => h4 _) h6).2
theorem alB_eq {p : Int} (h4 : ∀ y, B' 4 y = B 4 y) (h6 : B' 6 p = B 6 p) : alB B' p = alB B p := by
  unfold alB
  rw [h6, h4, h4, tre_eq h4 h6]
theorem PG_fr {p : Nat} (h : ∀ j x, j ≤ 8 → C' (pa p + j) x = C (pa p + j) x) (ht : tre B' p = tre B p) (hl : alB B' p = alB B p) (h6 : B' 6 (p : Int) = B 6 (p : Int)) (h8 : B' 8 (p : Int) = B 8 (p : Int)) (g : PG C B p) : PG C' B' p := by
  have e0 : ∀ x, C' (pa p) x = C (pa p) x := fun x => h 0 x (by decide)
  unfold PG
  rw [h6, h8, ht, hl, e0, e0]
  exact ⟨g.1, fun q => ⟨PgI_fr h (g.2 q).1, (g.2 q).2.1, OnA_fr h (g.2 q).2.2⟩⟩
theorem pa_le {p : Nat} (h : p < 8) : 1 ≤ pa p ∧ pa p + 8 < 75 := ⟨by unfold pa; split <;> omega, pr_lt (pa_ob h)⟩
theorem CKB_fr (h : CKB C) (f : ∀ x, C' 1000000000 x = C 1000000000 x) : CKB C' := fun j hj => by rw [f]; exact h j hj
theorem cT.fr (h : cT C B) (f : ∀ b x, (b = 0 ∧ (x = 8 ∨ x = 9)) ∨ (84 ≤ b ∧ b < 88) → C' b x = C b x) (g2 : B' 2 0 = B 2 0) (g1 : ∀ y, 0 ≤ y → y < B 2 0 → B' 1 y = B 1 y) : cT C' B' := by
  obtain ⟨h4, h5, h6⟩ := h
  have e8 := f 0 8 (by omega)
  have e9 := f 0 9 (by omega)
  refine ⟨by rw [e8, e9]; exact h4, ?_, ?_⟩
  · rw [e8, g2]
    exact (h5.fr (f _ _ (by omega)) (fun i => f _ _ (by omega))).im g1
  · rw [e9]
    unfold bOK
    rw [f _ _ (by omega)]
    exact h6
theorem cF.fr (h : cF C B) (f : ∀ b x, (b = 0 ∧ (x = 10 ∨ x = 11)) ∨ (108 ≤ b ∧ b < 112) → C' b x = C b x) (g : ∀ b y, b = 10 ∨ b = 11 ∨ b = 14 → B' b y = B b y) : cF C' B' := by
  obtain ⟨h7, h8⟩ := h
  have e10 := f 0 10 (by omega)
  have e11 := f 0 11 (by omega)
  refine ⟨by rw [e10, e11]; exact h7, ?_⟩
  rw [e10]
  unfold FO
  rw [f _ 1 (by omega), g 14 0 (by omega)]
  refine ⟨h8.1, h8.2.1, fun i i0 i1 => ?_⟩
  rw [f _ (2 * i) (by omega), f _ (2 * i + 1) (by omega), g 10 i (by omega), g 11 i (by omega)]
  exact h8.2.2 i i0 i1
theorem cG.fr (h : cG C B) (f : ∀ x, C' 83 x = C 83 x) (g : ∀ b y, b = 50 ∨ b = 71 → B' b y = B b y) : cG C' B' := fun i i0 i1 => by
  rw [f i, g 71 0 (by omega), g 50 i (by omega)]
  exact h i i0 i1
theorem cX.fr (h : cX C B) (f : ∀ b x, 75 ≤ b ∧ b < 83 → C' b x = C b x) (g : ∀ b y, b = 5 ∨ b = 9 → B' b y = B b y) : cX C' B' := fun t ht => by
  have ext : txB B' (t : Int) = txB B t := funext fun p => by unfold txB; exact g 5 _ (by omega)
  rw [g 9 _ (by omega), ext]
  exact (h t ht).fr (f _ _ (by omega)) (fun i => f _ _ (by omega))
theorem cPg.fr (h : cPg C B) (f : ∀ b x, 1 ≤ b ∧ b < 75 → C' b x = C b x) (g : ∀ b y, b = 4 ∨ b = 6 ∨ b = 8 → B' b y = B b y) : cPg C' B' := fun p hp => by
  have := pa_le hp
  exact PG_fr (fun j x hj => f _ _ (by omega)) (tre_eq (fun y => g 4 y (by omega)) (g 6 _ (by omega))) (alB_eq (fun y => g 4 y (by omega)) (g 6 _ (by omega))) (g 6 _ (by omega)) (g 8 _ (by omega)) (h p hp)
/-- what changes but the broken place alone of what stays -/
theorem CI_f3 (h : CIv c0 s0 C B) (hS : SH C') (hD : DI c1 s1 C') (f : ∀ b x, b < 90 ∨ (108 ≤ b ∧ b < 112) → ¬ (b = 0 ∧ x = 12) → C' b x = C b x) (f97 : WtI C') (fk : ∀ x, C' 1000000000 x = C 1000000000 x) (g : ∀ b y, Pb b y → b ≠ 3 → B' b y = B b y) (e : C' 0 12 = B' 3 0) : CIv c1 s1 C' B' := by
  obtain ⟨h1, h2, h3, h4, h5, h6, h9, h10, h11, h12⟩ := h
  have gg : ∀ b y, (1 ≤ b ∧ b ≤ 11) ∨ b = 14 ∨ b = 50 ∨ b = 71 → b ≠ 3 → B' b y = B b y := fun b y q => g b y q
  exact ⟨hS, hD, ⟨CKB_fr h3.1 fk, f97⟩, h4.fr (fun b x q => f b x (by omega) (by omega)) (gg 2 0 (by omega) (by decide)) (fun y _ _ => gg 1 y (by omega) (by decide)), by unfold bOK; rw [f _ _ (by omega) (by omega)]; exact h5, h6.fr (fun b x q => f b x (by omega) (by omega)) (fun b y q => gg b y (by omega) (by omega)), e, h10.fr (fun x => f _ _ (by omega) (by omega)) (fun b y q => gg b y (by omega) (by omega)), h11.fr (fun b x q => f b x (by omega) (by omega)) (fun b y q => gg b y (by omega) (by omega)), h12.fr (fun b x q => f b x (by omega) (by omega)) (fun b y q => gg b y (by omega) (by omega))⟩
theorem CI_fr (h : CIv c0 s0 C B) (hS : SH C') (hD : DI c1 s1 C') (f : ∀ b x, b < 90 ∨ (108 ≤ b ∧ b < 112) → C' b x = C b x) (f97 : WtI C') (fk : ∀ x, C' 1000000000 x = C 1000000000 x) (g : ∀ b y, Pb b y → B' b y = B b y) : CIv c1 s1 C' B' := CI_f3 h hS hD (fun b x q _ => f b x q) f97 fk (fun b y q _ => g b y q) (by rw [f 0 12 (by omega), g 3 0 (by unfold Pb; omega)]; exact h.2.2.2.2.2.2.1)
/-- the reference alone -/
theorem CI_B (h : CIv c0 s0 C B) (g : ∀ b y, Pb b y → B' b y = B b y) : CIv c0 s0 C B' := CI_fr h h.1 h.2.1 (fun _ _ _ => rfl) h.2.2.1.2 (fun _ => rfl) g
/-- an exception is made -/
theorem th_b {b : Nat} {x : Int} (h : b ≠ 2000000000) : thC C b x = C b x := by unfold thC; rw [u2_bank h, u2_bank h]
theorem SH_th (h : SH C) : SH (thC C) := SH_u2 (SH_u2 h (by decide)) (by decide)
theorem DI_th (h : DI c0 s0 C) (hc : c0 + 1 ≤ 900000000) : DI (c0 + 1) (s0 + 6) (thC C) := by
  have e1 : thC C 2000000000 0 = C 2000000000 0 + 1 := by unfold thC; rw [u2_idx (by decide), u2_same]
  have e2 : thC C 2000000000 1 = C 2000000000 1 + 6 := by unfold thC; exact u2_same
  have e3 : thC C 2000000000 (-1) = C 2000000000 (-1) := by unfold thC; rw [u2_idx (by decide), u2_idx (by decide)]
  have ep : pe (thC C) = pe C := by unfold pe; rw [th_b (by decide)]
  have ef : fe (thC C) = fe C := by unfold fe; rw [th_b (by decide)]
  unfold DI at h ⊢
  obtain ⟨⟨g1, g2, g3⟩, g4, kp, kf, k1, k2, k3, k4, k5, k6, k7, k8, k9, k10, k11⟩ := h
  have np : pe C ≠ 2000000000 := by omega
  have nf : fe C ≠ 2000000000 := by omega
  refine ⟨⟨by rw [e3]; exact g1, by rw [e1]; omega, by rw [e2]; omega⟩, ⟨hc, by rw [e1]; omega, fun i hi => by rw [th_b (by omega)]; exact g4.2.2 i hi⟩, kp, kf, k1, k2, ?_, ?_, ?_, ?_, by rw [ep, ef]; exact k7, by rw [e1]; omega, by rw [e2]; omega, by rw [th_b (by decide)]; exact k10, by rw [th_b (by decide)]; exact k11⟩
  · rw [ep, th_b np]; exact k3
  · rw [ef, th_b nf]; exact k4
  · rw [ep, e1]; exact ⟨k5.1, by omega⟩
  · rw [ef, e1]; exact ⟨k6.1, by omega⟩
theorem DI_lo (h : DI c0 s0 C) (f : ∀ b x, 103 ≤ b → b ≤ 106 ∨ 112 ≤ b → C' b x = C b x) : DI c0 s0 C' := by
  have ep : pe C' = pe C := by unfold pe; rw [f 103 0 (by decide) (by decide)]
  have ef : fe C' = fe C := by unfold fe; rw [f 105 0 (by decide) (by decide)]
  unfold DI at h ⊢
  obtain ⟨⟨g1, g2, g3⟩, g4, kp, kf, k1, k2, k3, k4, k5, k6, k7, k8, k9, k10, k11⟩ := h
  rw [ep, ef, f 2000000000 (-1) (by decide) (by decide), f 2000000000 0 (by decide) (by decide), f 2000000000 1 (by decide) (by decide), f 103 1 (by decide) (by decide)]
  refine ⟨⟨g1, g2, g3⟩, ⟨g4.1, g4.2.1, fun i hi => by rw [f _ _ (by omega) (by omega)]; exact g4.2.2 i hi⟩, kp, kf, k1, k2, ?_, ?_, k5, k6, k7, k8, k9, k10, k11⟩
  · rw [f _ _ (by omega) (by omega)]; exact k3
  · rw [f _ _ (by omega) (by omega)]; exact k4
theorem DI.ctr (h : DI c0 s0 C) : C 2000000000 (-1) = 0 ∧ 0 ≤ C 2000000000 0 ∧ 0 ≤ C 2000000000 1 := ⟨h.1.1, by have := h.1.2.1; omega, h.1.2.2⟩
theorem WtI_fr (h : WtI C) (f : ∀ x, C' 97 x = C 97 x) : WtI C' := fun x x0 x1 => by rw [f]; exact h x x0 x1
theorem CI_th (h : CIv c0 s0 C B) (hc : c0 + 1 ≤ 900000000) (g : ∀ b y, Pb b y → B' b y = B b y) : CIv (c0 + 1) (s0 + 6) (thC C) B' := CI_fr h (SH_th h.1) (DI_th h.2.1 hc) (fun b x hb => th_b (by omega)) (WtI_fr h.2.2.1.2 (fun x => th_b (by decide))) (fun x => th_b (by decide)) g
end CIF
