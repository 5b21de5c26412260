/-! THE CLASS'S WALKER: what holds while it walks -/
section WI
variable (c0 s0 : Int) (a t : Nat) (n te : Int) (P : qP) (H : Int → Nat → Option Bool) (tx : Int → Int) (K : Nat) (Mx : Int)
/-- program, text, counters -/
def WI (B : qB) : Prop := SH B ∧ DI c0 s0 B ∧ WCx a t n te B ∧ (∀ j s, 1 ≤ j → j ≤ 6 → B (a + j) s = P j s) ∧ (∀ s (c : Nat), H s c = some (hoC B (a + 7) s (c : Int))) ∧ (∀ p, byA B t p = tx p) ∧ (K : Int) ≤ 8 * el B (fe B)
/-- records tell the truth -/
def RSn (B : qB) : Prop := (∀ κ : Int, 0 ≤ κ → κ < (K : Int) → rv B κ ≤ 12) ∧ ∀ s p u, slk (P 1 s) → 1 ≤ s ∧ s < P 0 7 → 0 ≤ p ∧ p ≤ n → 0 ≤ u → u < rv B (ky P n s p) → Emp n tx te P H Mx s p u
/-- the keys of the program -/
def KYs : Prop := P 0 7 ≤ 608 ∧ (∀ s, 1 ≤ s → s < P 0 7 → slk (P 1 s) → 0 ≤ P 6 s ∧ (P 6 s + 1) * (n + 1) ≤ K) ∧ ∀ s s', 1 ≤ s → s < P 0 7 → 1 ≤ s' → s' < P 0 7 → slk (P 1 s) → slk (P 1 s') → P 6 s = P 6 s' → s = s'
/-- sum of the limits -/
def smL (L : Int → Int) : Nat → Int
  | 0 => 0
  | k + 1 => smL L k + L (k : Int)
/-- iterations so far, and what the records may still cost -/
def Psi (L : Int → Int) (B : qB) (k : Int) : Int := k + Mx * (smL L K - smr B K)
/-- on a walk from (s, p, u) one may come to (s', p', u') -/
def Rch (s p u s' p' u' : Int) : Prop := (p < p' ∨ (p' = p ∧ u' ≤ u)) ∧ ∀ g, TmX n P Mx g s p u → TmX n P Mx g s' p' u'
/-- limits of the records that a walk from (s, p, u) writes -/
def Lim (L : Int → Int) (s p u : Int) : Prop := ∀ s' p' u', slk (P 1 s') → 1 ≤ s' ∧ s' < P 0 7 → 0 ≤ p' ∧ p' ≤ n → 0 ≤ u' → Rch n P Mx s p u s' p' u' → u' < L (ky P n s' p')
end WI
/-- the pile up to z is the same -/
def PSm (B B' : qB) (z : Int) : Prop := ∀ j, 0 ≤ j → j < z → B' (pe B') j = B (pe B) j
/-- the marks are c -/
def MKs (B : qB) (c : qCp) : Prop := ∀ i, 0 ≤ i → i < 20 → B 107 i = c i
/-- the entries from z on tell how the marks were: c, where they are c' now -/
def UN (lv : Int) (S : List Int) (B : qB) (z : Int) (c c' : qCp) : Prop := (∀ j, z ≤ j → j < B 103 1 → enK (B (pe B) j)) ∧ ∀ i, 0 ≤ i → i < 20 → (∃ j, z ≤ j ∧ j < B 103 1 ∧ isU i (B (pe B) j) ∧ (∀ j', z ≤ j' → j' < j → ¬ isU i (B (pe B) j')) ∧ B (pe B) j % 1024 - 1 = c i ∧ (lv = 1 → i ∈ S)) ∨ ((∀ j, z ≤ j → j < B 103 1 → ¬ isU i (B (pe B) j)) ∧ c' i = c i)
section WIs
variable {c0 s0 : Int} {a t : Nat} {n te : Int} {P : qP} {H : Int → Nat → Option Bool} {tx : Int → Int} {K : Nat} {Mx : Int} {B B' : qB}
theorem fe_ne (hD : DI c0 s0 B) : fe B = 106 ∨ 112 ≤ fe B := by
  obtain ⟨-, -, kp, kf, -, -, -, -, -, h8, -⟩ := hD
  exact h8.1
theorem pe_ne (hD : DI c0 s0 B) : (pe B = 104 ∨ 112 ≤ pe B) ∧ pe B ≠ fe B := by
  obtain ⟨-, -, kp, kf, -, -, -, -, h7, -, h9, -⟩ := hD
  exact ⟨h7.1, h9⟩
theorem ob1_lt {t : Nat} (h : ob 1 t) : t + 1 < 90 := by
  have hh : ∀ t : Fin 112, shp t = 2 → (t : Nat) + 1 < 90 := by decide +kernel
  exact hh ⟨t, h.2.1⟩ h.1
/-- program and text stay -/
theorem WI_fr (h : WI c0 s0 a t n te P H tx K B) (hS : SH B') (hD : DI c0 s0 B') (hF : WF B B') (he : el B' (fe B') = el B (fe B)) : WI c0 s0 a t n te P H tx K B' := by
  obtain ⟨h1, h2, h3, h4, h5, h6, h7⟩ := h
  have al := pr_lt h3.2.1
  have tl := ob1_lt h3.2.2.2.1
  have fa : ∀ j y, j ≤ 8 → B' (a + j) y = B (a + j) y := fun j y hj => hF.1 _ _ (by omega) (by omega) (by omega) (by omega) (by omega) (by omega)
  have ft : ∀ j y, j ≤ 1 → B' (t + j) y = B (t + j) y := fun j y hj => hF.1 _ _ (by omega) (by omega) (by omega) (by omega) (by omega) (by omega)
  have f2 : ∀ y, y ≠ 6 → y ≠ 7 → y ≠ 8 → B' 102 y = B 102 y := fun y y6 y7 y8 => hF.1 _ _ (by decide) (by decide) (by decide) (by decide) (by decide) (fun _ => ⟨y6, y7, y8⟩)
  have ft0 : B' t 1 = B t 1 := ft 0 1 (by decide)
  have ft1 : ∀ y, B' (t + 1) y = B (t + 1) y := fun y => ft 1 y (by decide)
  refine ⟨hS, hD, ?_, fun j s j0 j1 => by rw [fa j s (by omega)]; exact h4 j s j0 j1, fun s c => ?_, fun p => ?_, by rw [he]; exact h7⟩
  · obtain ⟨g1, g2, g3, g4, g5, g6, g7, g8⟩ := h3
    exact ⟨by rw [f2 3 (by decide) (by decide) (by decide)]; exact g1, g2, by rw [f2 4 (by decide) (by decide) (by decide)]; exact g3, g4, by rw [ft0]; exact g5, g6, by rw [f2 5 (by decide) (by decide) (by decide)]; exact g7, g8⟩
  · rw [h5 s c]
    congr 1
    unfold hoC
    have e : ∀ y, B' (a + 7 + 1) y = B (a + 7 + 1) y := fun y => fa 8 y (by decide)
    rw [e]
  · rw [← h6 p]
    unfold byA
    rw [ft0, ft1]
theorem el_same (hD : DI c0 s0 B) (hf : fe B' = fe B) (h : B' (fe B) (-1) = B (fe B) (-1)) : el B' (fe B') = el B (fe B) := by
  unfold el
  rw [hf, h]
theorem rv_same (hf : fe B' = fe B) (h : ∀ i, B' (fe B) i = B (fe B) i) (κ : Int) : rv B' κ = rv B κ := by
  unfold rv
  rw [hf, h]
/-- a move -/
theorem MV_all {s p u : Int} (h : MV c0 s0 B B' s p u) (hW : WI c0 s0 a t n te P H tx K B) : WI c0 s0 a t n te P H tx K B' ∧ WF B B' ∧ (∀ κ, rv B' κ = rv B κ) ∧ B' 103 1 = B 103 1 ∧ (∀ z, PSm B B' z) ∧ (∀ y, B' 107 y = B 107 y) ∧ AtS B' s p u := by
  obtain ⟨g1, g2, g3, g4, g5, g6⟩ := h
  have hfe := fe_ne hW.2.1
  have hpe := pe_ne hW.2.1
  have hF : WF B B' := ⟨fun b x _ _ _ _ _ hx => g6 b x hx, fun x => g6 _ _ (fun q => absurd q (by decide))⟩
  have hf : ∀ i, B' (fe B) i = B (fe B) i := fun i => g6 _ _ (fun q => by omega)
  refine ⟨WI_fr hW g1 g2 hF (el_same hW.2.1 g4 (hf _)), hF, rv_same g4 hf, g6 _ _ (fun q => absurd q (by decide)), fun z j _ _ => ?_, fun y => g6 _ _ (fun q => absurd q (by decide)), g5⟩
  rw [g3]
  exact g6 _ _ (fun q => by omega)
/-- an entry is pushed -/
theorem PU_all {x : Int} (h : PU c0 s0 B B' x) (hW : WI c0 s0 a t n te P H tx K B) : WI c0 s0 a t n te P H tx K B' ∧ WF B B' ∧ (∀ κ, rv B' κ = rv B κ) ∧ B' 103 1 = B 103 1 + 1 ∧ PSm B B' (B 103 1) ∧ B' (pe B') (B 103 1) = x ∧ (∀ y, B' 107 y = B 107 y) ∧ ∀ s p u, AtS B s p u → AtS B' s p u := by
  have hF := h.wf
  obtain ⟨g1, g2, g3, g4, g5, g6, g7, g8, g9⟩ := h
  have e2 : ∀ y, B' 102 y = B 102 y := fun y => g8 _ _ (by decide) (by decide) (by decide)
  exact ⟨WI_fr hW g1 g2 hF (el_same hW.2.1 g6 (g7 _)), hF, rv_same g6 g7, g3, g5, g4, fun y => g8 _ _ (by decide) (by decide) (by decide), fun s p u hA => ⟨by rw [e2]; exact hA.1, by rw [e2]; exact hA.2.1, by rw [e2]; exact hA.2.2⟩⟩
/-- the topmost entry is popped -/
theorem pop_all (hW : WI c0 s0 a t n te P H tx K B) (h0 : 0 < B 103 1) : WI c0 s0 a t n te P H tx K (pop1 B) ∧ WF B (pop1 B) ∧ (∀ κ, rv (pop1 B) κ = rv B κ) ∧ (pop1 B) 103 1 = B 103 1 - 1 ∧ (∀ z, PSm B (pop1 B) z) ∧ (∀ b y, b ≠ 103 → (pop1 B) b y = B b y) := by
  obtain ⟨D1, p1, f1⟩ := pop1_D hW.2.1 h0
  have hfe := fe_ne hW.2.1
  have hpe := pe_ne hW.2.1
  have hF : WF B (pop1 B) := WF_u2 hW.2.1 (Or.inl rfl)
  have hf : ∀ i, (pop1 B) (fe B) i = B (fe B) i := fun i => u2_bank (by omega)
  refine ⟨WI_fr hW (SH_u2 hW.1 (by decide)) D1 hF (el_same hW.2.1 f1 (hf _)), hF, rv_same f1 hf, u2_same, fun z j _ _ => ?_, fun b y hb => u2_bank hb⟩
  rw [p1]
  exact u2_bank (by omega)
/-- a mark is set -/
theorem mk_all {i x : Int} (hi : 0 ≤ i) (hW : WI c0 s0 a t n te P H tx K B) : WI c0 s0 a t n te P H tx K (u2 B 107 i x) ∧ WF B (u2 B 107 i x) ∧ (∀ κ, rv (u2 B 107 i x) κ = rv B κ) ∧ (u2 B 107 i x) 103 1 = B 103 1 ∧ (∀ z, PSm B (u2 B 107 i x) z) ∧ (∀ b y, b ≠ 107 → (u2 B 107 i x) b y = B b y) := by
  obtain ⟨D1, p1, f1⟩ := DI_u2 (b := 107) (x := i) (z := x) hW.2.1 hi (by decide) (fun q => absurd q (by decide)) (fun q => absurd q (by decide))
  have hfe := fe_ne hW.2.1
  have hpe := pe_ne hW.2.1
  have hF : WF B (u2 B 107 i x) := WF_u2 hW.2.1 (Or.inr (Or.inr (Or.inr (Or.inl rfl))))
  have hf : ∀ y, (u2 B 107 i x) (fe B) y = B (fe B) y := fun y => u2_bank (by omega)
  refine ⟨WI_fr hW (SH_u2 hW.1 hi) D1 hF (el_same hW.2.1 f1 (hf _)), hF, rv_same f1 hf, u2_bank (by decide), fun z j _ _ => ?_, fun b y hb => u2_bank hb⟩
  rw [p1]
  exact u2_bank (by omega)
theorem PSm.tr {B1 B2 : qB} {z : Int} (h : PSm B B1 z) (g : PSm B1 B2 z) : PSm B B2 z := fun j j0 j1 => (g j j0 j1).trans (h j j0 j1)
theorem PSm.le {z z' : Int} (h : PSm B B' z) (hz : z' ≤ z) : PSm B B' z' := fun j j0 j1 => h j j0 (by omega)
theorem RSn_same (h : RSn n te P H tx K Mx B) (hr : ∀ κ, rv B' κ = rv B κ) : RSn n te P H tx K Mx B' := ⟨fun κ k0 k1 => by rw [hr]; exact h.1 κ k0 k1, fun s p u q1 q2 q3 q4 q5 => h.2 s p u q1 q2 q3 q4 (by rw [← hr]; exact q5)⟩
theorem smr_same (hr : ∀ κ, rv B' κ = rv B κ) : ∀ k : Nat, smr B' k = smr B k := by
  intro k
  induction k with
  | zero => rfl
  | succ k ih => unfold smr; rw [ih, hr]
theorem Psi_same {L : Int → Int} (hr : ∀ κ, rv B' κ = rv B κ) {k : Int} : Psi K Mx L B' k = Psi K Mx L B k := by
  unfold Psi
  rw [smr_same hr]
theorem Psi_k {L : Int → Int} {k j : Int} : Psi K Mx L B (k + j) = Psi K Mx L B k + j := by
  unfold Psi
  omega
theorem smL_ge {L : Int → Int} (h : ∀ κ, 0 ≤ κ → rv B κ ≤ L κ) : ∀ k : Nat, smr B k ≤ smL L k := by
  intro k
  induction k with
  | zero => exact Int.le_refl _
  | succ k ih => have := h (k : Int) (by omega); unfold smr smL; omega
theorem Psi_ge {L : Int → Int} (hM : 0 ≤ Mx) (h : ∀ κ, 0 ≤ κ → rv B κ ≤ L κ) {k : Int} : k ≤ Psi K Mx L B k := by
  have := Int.mul_nonneg hM (show 0 ≤ smL L K - smr B K by have := smL_ge h K; omega)
  unfold Psi
  omega
theorem smL_set {L : Int → Int} {κ u : Int} (k0 : 0 ≤ κ) : ∀ k : Nat, smL (fun x => if x = κ then u else L x) k = smL L k - (if κ < k then L κ - u else 0) := by
  intro k
  induction k with
  | zero => unfold smL; rw [if_neg (by omega)]; rfl
  | succ k ih =>
    unfold smL
    rw [ih]
    by_cases e : κ = (k : Int)
    · have e9 : (if (k : Int) = κ then u else L (k : Int)) = u := if_pos e.symm
      rw [e9, if_neg (by omega), if_pos (by omega), e]; omega
    · have e9 : (if (k : Int) = κ then u else L (k : Int)) = L (k : Int) := if_neg (fun q => e q.symm)
      rw [e9]
      by_cases q : κ < (k : Int)
      · rw [if_pos q, if_pos (by omega)]; omega
      · rw [if_neg q, if_neg (by omega)]; omega
theorem smr_set {κ v : Int} (k0 : 0 ≤ κ) (h : rv B' κ = v) (h2 : ∀ κ', 0 ≤ κ' → κ' ≠ κ → rv B' κ' = rv B κ') : ∀ k : Nat, smr B' k = smr B k + (if κ < k then v - rv B κ else 0) := by
  intro k
  induction k with
  | zero => unfold smr; rw [if_neg (by omega)]; rfl
  | succ k ih =>
    unfold smr
    rw [ih]
    by_cases e : κ = (k : Int)
    · rw [if_neg (by omega), if_pos (by omega), ← e, h]; omega
    · rw [h2 (k : Int) (by omega) (fun q => e q.symm)]
      by_cases q : κ < (k : Int)
      · rw [if_pos q, if_pos (by omega)]; omega
      · rw [if_neg q, if_neg (by omega)]; omega
theorem Rch_up {s p u s1 p1 u1 s' p' u' : Int} (h : Rch n P Mx s p u s1 p1 u1) (g : Rch n P Mx s1 p1 u1 s' p' u') : Rch n P Mx s p u s' p' u' := ⟨by have := h.1; have := g.1; omega, fun x z => g.2 x (h.2 x z)⟩
theorem Lim_up {L : Int → Int} {s p u s1 p1 u1 : Int} (h : Lim n P Mx L s p u) (g : Rch n P Mx s p u s1 p1 u1) : Lim n P Mx L s1 p1 u1 := fun s' p' u' q1 q2 q3 q4 q5 => h s' p' u' q1 q2 q3 q4 (Rch_up g q5)
theorem keV_ky (hW : WI c0 s0 a t n te P H tx K B) (s p : Int) : keV B s p = ky P n s p := by
  obtain ⟨-, -, ⟨g1, -, g3, -, g5, -⟩, h4, -⟩ := hW
  unfold keV ky
  have e : (B 102 3).toNat = a := by omega
  have e4 : (B 102 4).toNat = t := by omega
  rw [e, e4, g5, h4 6 s (by decide) (by decide)]
theorem ky_rg (hK : KYs n P K) {s p : Int} (hs : 1 ≤ s ∧ s < P 0 7) (hk : slk (P 1 s)) (hp : 0 ≤ p ∧ p ≤ n) : 0 ≤ ky P n s p ∧ ky P n s p < K := by
  have h := hK.2.1 s hs.1 hs.2 hk
  have e := Int.add_mul (P 6 s) 1 (n + 1)
  have m := Int.mul_nonneg h.1 (show 0 ≤ n + 1 by omega)
  unfold ky
  omega
theorem ky_inj (hK : KYs n P K) {s p s' p' : Int} (hs : 1 ≤ s ∧ s < P 0 7) (hk : slk (P 1 s)) (hp : 0 ≤ p ∧ p ≤ n) (hs' : 1 ≤ s' ∧ s' < P 0 7) (hk' : slk (P 1 s')) (hp' : 0 ≤ p' ∧ p' ≤ n) (h : ky P n s p = ky P n s' p') : s = s' ∧ p = p' := by
  unfold ky at h
  have e : P 6 s = P 6 s' := by
    rcases Int.lt_trichotomy (P 6 s) (P 6 s') with q | q | q
    · have := Int.mul_le_mul_of_nonneg_right (show P 6 s + 1 ≤ P 6 s' by omega) (show 0 ≤ n + 1 by omega)
      have e := Int.add_mul (P 6 s) 1 (n + 1)
      omega
    · exact q
    · have := Int.mul_le_mul_of_nonneg_right (show P 6 s' + 1 ≤ P 6 s by omega) (show 0 ≤ n + 1 by omega)
      have e := Int.add_mul (P 6 s') 1 (n + 1)
      omega
  refine ⟨hK.2.2 s s' hs.1 hs.2 hs'.1 hs'.2 hk hk' e, ?_⟩
  rw [e] at h
  omega
end WIs
