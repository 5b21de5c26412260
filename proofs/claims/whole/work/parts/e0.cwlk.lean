/-! THE CLASS'S WALKER: a walk over the program of a tree finds the tree's first way -/
section RWK
variable {h1 : qH} {c0 s0 : Int} {a t : Nat} {n te : Int} {tx : Int → Int} {e : qT}
theorem xy_le {x y : Int} (h0 : 0 ≤ x) (h1 : 0 ≤ y) (h : x + y ≤ 402) : x * y ≤ 40401 := by
  have h2 : x * y ≤ x * (402 - x) := Int.mul_le_mul_of_nonneg_left (by omega) h0
  have h3 : ∀ x : Fin 403, (((x : Nat) : Int)) * (402 - ((x : Nat) : Int)) ≤ 40401 := by decide +kernel
  have := h3 ⟨x.toNat, by omega⟩
  simp only at this
  rw [show ((x.toNat : Nat) : Int) = x by omega] at this
  omega
theorem smr_nn {B : qB} : ∀ k : Nat, 0 ≤ smr B k := by
  intro k
  induction k with
  | zero => exact Int.le_refl _
  | succ k ih => have := rv_rg (B := B) (κ := (k : Int)); unfold smr; omega
/-- the limits when nothing is open -/
def L12 (K : Nat) : Int → Int := fun κ => if κ < K then 12 else 15
theorem smL_12 {K : Nat} : ∀ k : Nat, k ≤ K → smL (L12 K) k = 12 * k := by
  intro k
  induction k with
  | zero => intro _; rfl
  | succ k ih =>
    intro hk
    unfold smL
    rw [ih (by omega)]
    unfold L12
    rw [if_pos (by omega)]
    omega
/-- what a tree must be -/
def TrO (e : qT) : Prop := wf e ∧ nst e ∧ sd e ≤ 10 ∧ shq e 1 ∧ wR e ≤ 400
theorem KY_of {B : qB} {P : qP} (hn : 0 ≤ n) (hP : ∀ j s, 1 ≤ j → j ≤ 6 → B (a + j) s = P j s) (hP0 : P 0 7 = B a 7) (hsz : B a 7 ≤ 608) (hsl : B a 8 = spc e) (hsp : 0 ≤ spc e) (hI : SlI B a) : KYs n P (spc e * (n + 1)).toNat := by
  have hm := Int.mul_nonneg hsp (show 0 ≤ n + 1 by omega)
  have hk : ∀ s, slk (P 1 s) → skd (B (a + 1) s) = 1 := fun s h => by
    rw [hP 1 s (by decide) (by decide)]
    unfold slk at h
    unfold skd
    rw [if_pos (by omega)]
  refine ⟨by rw [hP0]; exact hsz, fun s s1 s2 h => ?_, fun s s' s1 s2 s3 s4 h h' e => ?_⟩
  · have := hI.1 s (by omega) (by omega)
    rw [hk s h, hP 6 s (by decide) (by decide), hsl] at this
    refine ⟨this.1, ?_⟩
    have := Int.mul_le_mul_of_nonneg_right this.2 (show 0 ≤ n + 1 by omega)
    omega
  · have g := hI.2
    rcases Int.lt_trichotomy s s' with q | q | q
    · have := g s s' (by omega) q (by omega)
      rw [hk s h, hP 6 s (by decide) (by decide), hP 6 s' (by decide) (by decide)] at this
      omega
    · exact q
    · have := g s' s (by omega) q (by omega)
      rw [hk s' h', hP 6 s (by decide) (by decide), hP 6 s' (by decide) (by decide)] at this
      omega
/-- the walk -/
theorem R_walk {d : Nat} {B : qB} {P : qP} {H : Int → Nat → Option Bool} {p : Int} {c : qCp} {Q : qO → qB → Prop} (hd : 20 ≤ d) (hT : TrO e) (hL : Ly P H 1 (P 0 7) e 0 0 (P 0 9) 0 0 0) (hK : KYs n P (spc e * (n + 1)).toNat) (hW : WI c0 s0 a t n te P H tx (spc e * (n + 1)).toNat B) (hR : RSn n te P H tx (spc e * (n + 1)).toNat (2 * (znb e + 2)) B) (hz : B 103 1 = 0) (hp : 0 ≤ p ∧ p ≤ n) (hc : MKs B c) (hcr : ∀ i, 0 ≤ i → i < 20 → -1 ≤ c i ∧ c i ≤ n)
    (ok : ∀ o rest, (dn n tx e p c).filter (acc te n) = o :: rest → ∀ B', WI c0 s0 a t n te P H tx (spc e * (n + 1)).toNat B' → WF B B' → RSn n te P H tx (spc e * (n + 1)).toNat (2 * (znb e + 2)) B' → MKs B' o.2 → Q (.inl (some (iv o.1))) B')
    (no : (dn n tx e p c).filter (acc te n) = [] → ∀ B', WI c0 s0 a t n te P H tx (spc e * (n + 1)).toNat B' → WF B B' → RSn n te P H tx (spc e * (n + 1)).toNat (2 * (znb e + 2)) B' → MKs B' c → Q (.inl (some (iv (-1)))) B') : qY h1 d n_Wa_walk 0 [some (.ref 102), some (iv (P 0 9)), some (iv p), some (iv 0), none, none, none] [] B Q := by
  obtain ⟨t1, t2, t3, t4, t5⟩ := hT
  obtain ⟨d, rfl⟩ : ∃ d', d = d' + 1 := ⟨d - 1, by omega⟩
  have hwd := hW.2.2.1.2.2.2.2.2.1
  have hZ := z_nn e t1
  have hZ2 := z_w2 e t1 (by omega) t2
  have hsc := (stc_nn e t1).2
  have wn := (wR_bd e t1).1
  have htx : ∀ p, 0 ≤ p → p < n → 0 ≤ tx p ∧ tx p ≤ 255 := fun p p0 p1 => by
    rw [← hW.2.2.2.2.2.1 p, (byA_lt hW.2.2.1.2.2.2.2.1 p0).1 p1]
    exact a255 _
  have hSg := (Ev_Ly (n := n) (tx := tx) (te := te) (P := P) (H := H) (Mx := 2 * (znb e + 2)) (Cm := znb e + 2) htx (Int.le_refl 1) (Int.le_refl (P 0 7)) (Int.le_refl _) e t1).1 0 [] (P 0 9) 0 0 1 (Or.inl ⟨rfl, t2⟩) (Int.le_refl _) (by omega) t4 hL
  have mm : ∀ q, p ≤ q → q ≤ n → zal e * (q - p) ≤ zal e * (n - p) := fun q q0 q1 => Int.mul_le_mul_of_nonneg_left (by omega) hZ.1
  have hEv := hSg p 0 (zal e * (n - p) + zzz e) 2 (fun q _ c => if te = 0 ∨ q = n then [(q, c)] else []) hp.1 hp.2 (Int.le_refl _) (Int.le_refl _) (Int.le_refl _) (Int.le_refl _) (Int.le_refl _) (fun q q0 q1 => by
    have := mm q q0 q1
    rw [ite_self]
    refine (Ev_0 (by omega) (by omega) (by omega) (by omega)).eq (fun c => ?_)
    by_cases z : te = 0 ∨ q = n
    · rw [if_pos z, if_pos (Or.inr z)]
    · rw [if_neg z, if_neg (by rintro (w | w); · omega
                               · exact z w)])
  obtain ⟨f, hTm, hWw⟩ := hEv
  have eW : Ww n tx te P H f 0 (P 0 9) p 0 c = (dn n tx e p c).filter (acc te n) := by
    exact (hWw c).trans (LF_Kf (u := 0))
  refine c_Wa_walk_0_ok (by omega) hW.1 ?_
  unfold c_Wa_walk_0
  have hM : MV c0 s0 B (u2 (u2 (u2 B 102 6 (P 0 9)) 102 7 p) 102 8 0) (P 0 9) p 0 := by
    refine MV_in hW.1 hW.2.1 ⟨by rw [u2_idx (by decide), u2_idx (by decide), u2_same], by rw [u2_idx (by decide), u2_same], u2_same⟩ (fun b y hb => ?_)
    by_cases e : b = 102
    · have := hb e
      subst e
      rw [u2_idx this.2.2, u2_idx this.2.1, u2_idx this.1]
    · rw [u2_bank e, u2_bank e, u2_bank e]
  revert hM
  generalize u2 (u2 (u2 B 102 6 (P 0 9)) 102 7 p) 102 8 0 = B2
  intro hM
  obtain ⟨m1, m2, m3, m4, m5, m6, m7⟩ := MV_all hM hW
  have hR2 := RSn_same hR m3
  -- the numbers
  have a1 : zal e * (n - p) ≤ zal e * 1000 := Int.mul_le_mul_of_nonneg_left (by omega) hZ.1
  have x1 : (znb e + 2) * spc e ≤ 40401 := xy_le (by omega) hsc (by omega)
  have x2 : (znb e + 2) * spc e * (n + 1) ≤ 40401 * 1001 := Int.mul_le_mul x1 (by omega) (by omega) (by decide)
  have hKn : (((spc e * (n + 1)).toNat : Nat) : Int) = spc e * (n + 1) := by
    have := Int.mul_nonneg hsc (show 0 ≤ n + 1 by omega)
    omega
  have hPsi : Psi (spc e * (n + 1)).toNat (2 * (znb e + 2)) (L12 (spc e * (n + 1)).toNat) B2 0 ≤ 24 * (40401 * 1001) := by
    unfold Psi
    rw [smL_12 _ (Nat.le_refl _), hKn]
    have s1 := smr_nn (B := B2) (spc e * (n + 1)).toNat
    have := Int.mul_le_mul_of_nonneg_left (show 12 * (spc e * (n + 1)) - smr B2 (spc e * (n + 1)).toNat ≤ 12 * (spc e * (n + 1)) by omega) (show 0 ≤ 2 * (znb e + 2) by omega)
    have e2 : 2 * (znb e + 2) * (12 * (spc e * (n + 1))) = 24 * ((znb e + 2) * spc e * (n + 1)) := by
      rw [Int.mul_assoc, Int.mul_left_comm (znb e + 2) 12, ← Int.mul_assoc 2 12, ← Int.mul_assoc (znb e + 2)]
      rfl
    omega
  refine Run_all (by omega) hK f 0 [] (P 0 9) p 0 _ _ c (L12 (spc e * (n + 1)).toNat) B2 0 (B 103 1) Q d trivial (Or.inl ⟨rfl, by omega⟩) hTm ⟨m1, m7, hp, fun i i0 i1 => by rw [m6]; exact hc i i0 i1, hcr, hR2, ⟨fun κ k0 => ?_, fun s' p' u' q1 q2 q3 q4 q5 => ?_⟩, by omega, Int.le_refl _, by omega⟩ (by omega) (fun o rest hw B' hB' => ?_) (fun hw B' k' hB' => ?_)
  · unfold L12
    split
    · rename_i q; exact hR2.1 κ k0 q
    · exact rv_rg.2
  · obtain ⟨_, _, _, _, z⟩ := q5.2 f ⟨_, _, _, _, hTm⟩
    have := Tm_ch z
    unfold L12
    split <;> omega
  · rw [eW] at hw
    obtain ⟨g1, g2, g3, g4, g5, g6, g7, g8⟩ := hB'
    exact ok o rest hw B' g1 (m2.tr g2) g3 g7
  · rw [eW] at hw
    obtain ⟨g1, g2, g3, g4, g5, g6, g7, g8, g9⟩ := hB'
    exact Fl_floor (by omega) g1.1 (by omega) ⟨by omega, by omega⟩ (no hw B' g1 (m2.tr g2) g3 g7)
end RWK
