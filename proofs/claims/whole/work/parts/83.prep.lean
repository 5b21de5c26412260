/-! THE REFERENCE PREPARES A SEARCH -/
/-- the signs of n bytes -/
def sgF (f : Int → Int) (n i : Int) : Int := if i < n then (if i < 0 then -2 else if 32 ≤ f i ∧ f i ≤ 126 then f i else -2) else -1
def pB (B : qB) (p : Int) (i : Int) : Int := B 4 (200 * p + i)
section PREP
variable {m : Nat} {h0 : qH} {d : Nat} {B : qB} {Q : qO → qB → Prop}
/-- what reading keeps, but for the pattern's bytes -/
def Kq (b : Nat) (y : Int) : Prop := b ≤ 16 ∨ (b = 31 ∧ y < 0) ∨ 42 ≤ b
theorem R_again (hm : m + 100 < 1000000000) {p gr : Int} {e : qT} (p0 : 0 ≤ p) (p1 : p < 8) (s0 : 1 ≤ B 6 p) (s1 : B 6 p ≤ 201) (hby : ∀ i, 0 ≤ i → i < 1600 → 0 ≤ B 4 i ∧ B 4 i ≤ 255) (hng : ∀ y, y < 0 → B 31 y = 0) (hpa : sParse (sgF (pB B p) (B 6 p - 1)) = .ok (e, gr))
    (k : ∀ B', B' 35 0 = -1 → nd B' (B' 28 0) (B' 29 0) e (B' 34 0) → wf e → ln e ≤ 200 → B' 30 0 = gr → 0 ≤ gr → gr ≤ 9 → 0 ≤ B' 28 0 → B' 28 0 ≤ 1100 → 0 ≤ B' 29 0 → B' 29 0 ≤ 200 → FrS Kq B B' → Q (.inl none) B') : qZ m h0 (d + 8) k_again 0 [some (.ref m), some (iv p), none] [] B Q := by
  have L : ∀ (N : Nat) (x : Int) (Bk : qB), 0 ≤ x → x + N = B 6 p - 1 → Bk 32 0 = B 6 p - 1 → FrS Kq B Bk → (∀ i, 0 ≤ i → i < x → Bk 31 i = pB B p i) → qZ m h0 (d + 8) k_again 14 [some (.ref m), some (iv p), some (iv x)] [] Bk Q := by
    intro N
    induction N with
    | zero =>
      intro x Bk x0 hx e32 f1 e31
      have hx' : x = B 6 p - 1 := by omega
      refine r_again_14_ok hm ?_
      unfold r_again_14
      rw [e32]
      refine ⟨⟨by omega, by omega⟩, ⟨by omega, by omega⟩, fun _ => ?_, fun q => by omega⟩
      have esg : sgB Bk = sgF (pB B p) (B 6 p - 1) := by
        funext i
        unfold sgB sgF
        rw [e32]
        by_cases h1 : i < B 6 p - 1
        · rw [if_pos h1, if_pos h1]
          by_cases h2 : i < 0
          · rw [if_pos h2, f1 31 i (by unfold Kq; omega), hng i h2, if_neg (by omega)]
          · rw [if_neg h2, e31 i (by omega) (by omega)]
        · rw [if_neg h1, if_neg h1]
      have hPO : PO Bk := ⟨by omega, by omega, fun i i0 i1 => by rw [e31 i i0 (by omega)]; exact hby _ (by omega) (by omega)⟩
      refine R_readPattern hm hPO (fun w B' he hw hE => ?_) (fun e' gr' B' he q1 q2 q3 q4 q5 q6 q7 q8 q9 q10 q11 q12 => ⟨rfl, ?_⟩)
      · rw [esg, hpa] at he
        exact absurd he (by simp)
      · rw [esg, hpa] at he
        have h9 := Except.ok.inj he
        have h10 : e = e' := congrArg Prod.fst h9
        have h11 : gr = gr' := congrArg Prod.snd h9
        subst h10
        subst h11
        unfold r_again_50
        exact k B' q1 q2 q3 q4 q5 q6 q7 q8 q9 q10 q11 (FrS.trans f1 q12 (fun b y q => by unfold Kq at q; unfold Kp; omega))
    | succ N ih =>
      intro x Bk x0 hx e32 f1 e31
      refine r_again_14_ok hm ?_
      unfold r_again_14
      rw [e32]
      refine ⟨⟨by omega, by omega⟩, ⟨by omega, by omega⟩, fun q => by omega, fun _ => ⟨by omega, by omega, x0, by omega, ?_⟩⟩
      refine ih (x + 1) _ (by omega) (by omega) (by rw [u2_bank (by decide)]; exact e32) (f1.u2 (by unfold Kq; omega)) (fun i i0 i1 => ?_)
      by_cases e1 : i = x
      · subst e1; rw [u2_same, f1 4 _ (by unfold Kq; omega)]; rfl
      · rw [u2_idx e1]; exact e31 i i0 (by omega)
  refine r_again_0_ok hm ?_
  unfold r_again_0
  exact ⟨p0, p1, L (B 6 p - 1).toNat 0 _ (Int.le_refl _) (by omega) u2_same (FrS.refl.u2 (by unfold Kq; omega)) (fun i i0 i1 => by omega)⟩
theorem R_newSearch (hm : m + 100 < 1000000000) (k0 : 0 ≤ B 56 0) (k1 : B 56 0 ≤ 4500) (n0 : 0 ≤ B 57 0) (n1 : B 57 0 ≤ 1000) (k : ∀ B', (∀ b y, b ≠ 67 → B' b y = B b y) → (∀ j, 0 ≤ j → j < B 56 0 * (B 57 0 + 1) → fbit B' j = false) → Q (.inl none) B') : qZ m h0 (d + 2) k_newSearch 0 [some (.ref m)] [] B Q := by
  have hm1 : B 56 0 * (B 57 0 + 1) ≤ 4500 * (B 57 0 + 1) := Int.mul_le_mul_of_nonneg_right k1 (by omega)
  refine r_newSearch_0_ok hm ?_
  unfold r_newSearch_0
  refine R_clearNotes hm (Int.le_refl _) k0 n0 (by omega) (fun B' e1 e2 => ⟨rfl, ?_⟩)
  unfold r_newSearch_9
  refine k B' e1 (fun j j0 j1 => ?_)
  rw [e2 j, Int.zero_mul, decide_eq_true j0, decide_eq_true j1]
  simp
/-- what preparing keeps -/
def PS (b : Nat) (y : Int) : Prop := b ≤ 16 ∨ (b = 31 ∧ y < 0) ∨ (49 ≤ b ∧ b ≤ 51) ∨ b = 59 ∨ 68 ≤ b
theorem R_prepare (hm : m + 100 < 1000000000) {p t gr : Int} {e : qT} (p0 : 0 ≤ p) (p1 : p < 8) (s0 : 1 ≤ B 6 p) (s1 : B 6 p ≤ 201) (hby : ∀ i, 0 ≤ i → i < 1600 → 0 ≤ B 4 i ∧ B 4 i ≤ 255) (hng : ∀ y, y < 0 → B 31 y = 0) (hpa : sParse (sgF (pB B p) (B 6 p - 1)) = .ok (e, gr)) (hw : wR e ≤ 400) (t0 : 0 ≤ t) (t1 : t < 4) (n0 : 0 ≤ B 9 t) (n1 : B 9 t ≤ 1000) (htx : ∀ x, 0 ≤ x → x < 4000 → 0 ≤ B 5 x ∧ B 5 x < 256)
    (k : ∀ B', PRE B' e → (∀ j, 0 ≤ j → j < B' 56 0 * (B' 57 0 + 1) → fbit B' j = false) → B' 57 0 = B 9 t → B' 58 0 = 1000 * t → FrS PS B B' → Q (.inl none) B') : qZ m h0 (d + 9) k_prepare 0 [some (.ref m), some (iv p), some (iv t)] [] B Q := by
  refine r_prepare_0_ok hm ?_
  unfold r_prepare_0
  refine R_again hm p0 p1 s0 s1 hby hng hpa (fun B1 q1 q2 q3 q4 q5 q6 q7 q8 q9 q10 q11 q12 => ⟨rfl, ?_⟩)
  obtain ⟨d1, d2⟩ := parse_deep hpa
  have hn := parse_nst hpa
  unfold r_prepare_5
  have sd1 : -1 ≤ sd e ∨ True := Or.inr trivial
  have o2 : ∀ b y, b ≠ 46 → b ≠ 47 → b ≠ 48 → b ≠ 56 → b ≠ 54 → b ≠ 55 → (u2 (u2 (u2 (u2 (u2 (u2 B1 46 0 0) 47 0 0) 48 0 0) 56 0 0) 54 0 0) 55 0 (-1)) b y = B1 b y := fun b y a1 a2 a3 a4 a5 a6 => by rw [u2_bank a6, u2_bank a5, u2_bank a4, u2_bank a3, u2_bank a2, u2_bank a1]
  have c46 : (u2 (u2 (u2 (u2 (u2 (u2 B1 46 0 0) 47 0 0) 48 0 0) 56 0 0) 54 0 0) 55 0 (-1)) 46 0 = 0 := by rw [u2_bank (by decide), u2_bank (by decide), u2_bank (by decide), u2_bank (by decide), u2_bank (by decide), u2_same]
  have c47 : (u2 (u2 (u2 (u2 (u2 (u2 B1 46 0 0) 47 0 0) 48 0 0) 56 0 0) 54 0 0) 55 0 (-1)) 47 0 = 0 := by rw [u2_bank (by decide), u2_bank (by decide), u2_bank (by decide), u2_bank (by decide), u2_same]
  have c48 : (u2 (u2 (u2 (u2 (u2 (u2 B1 46 0 0) 47 0 0) 48 0 0) 56 0 0) 54 0 0) 55 0 (-1)) 48 0 = 0 := by rw [u2_bank (by decide), u2_bank (by decide), u2_bank (by decide), u2_same]
  have c56 : (u2 (u2 (u2 (u2 (u2 (u2 B1 46 0 0) 47 0 0) 48 0 0) 56 0 0) 54 0 0) 55 0 (-1)) 56 0 = 0 := by rw [u2_bank (by decide), u2_bank (by decide), u2_same]
  have c54 : (u2 (u2 (u2 (u2 (u2 (u2 B1 46 0 0) 47 0 0) 48 0 0) 56 0 0) 54 0 0) 55 0 (-1)) 54 0 = 0 := by rw [u2_bank (by decide), u2_same]
  have c55 : (u2 (u2 (u2 (u2 (u2 (u2 B1 46 0 0) 47 0 0) 48 0 0) 56 0 0) 54 0 0) 55 0 (-1)) 55 0 = -1 := u2_same
  generalize u2 (u2 (u2 (u2 (u2 (u2 B1 46 0 0) 47 0 0) 48 0 0) 56 0 0) 54 0 0) 55 0 (-1) = B2 at *
  have nd2 : nd B2 (B2 28 0) (B2 29 0) e (B2 34 0) := by
    rw [o2 28 0 (by decide) (by decide) (by decide) (by decide) (by decide) (by decide), o2 29 0 (by decide) (by decide) (by decide) (by decide) (by decide) (by decide), o2 34 0 (by decide) (by decide) (by decide) (by decide) (by decide) (by decide)]
    exact nd_fr0 (fun b y q => o2 b y (by unfold NdS at q; omega) (by unfold NdS at q; omega) (by unfold NdS at q; omega) (by unfold NdS at q; omega) (by unfold NdS at q; omega) (by unfold NdS at q; omega)) (Int.le_refl _) (Int.le_refl _) _ _ q2
  have sdl : sd e ≥ -1 ∨ sd e < -1 := by omega
  refine qZ.mono (d := d + 3) (R_compile hm nd2 q3 hw d1 (by omega) (by rw [o2 28 0 (by decide) (by decide) (by decide) (by decide) (by decide) (by decide)]; omega) (by rw [o2 29 0 (by decide) (by decide) (by decide) (by decide) (by decide) (by decide)]; omega) c46 c47 c48 c56 c54 c55 (fun B3 x1 x2 x3 x4 x5 => ⟨rfl, ?_⟩)) (by omega) (fun _ _ q => q)
  obtain ⟨l1, l2, l3⟩ := cl_w e q3 hw
  obtain ⟨y1, y2, y3⟩ := cl_nn e q3
  unfold r_prepare_41
  refine qZ.mono (d := d + 1) (R_emit0 hm (by rw [x1.1]; omega) (by rw [x1.1]; omega) (by decide) (by decide) (by decide) (by decide) ⟨_, rfl, ?_⟩) (by omega) (fun _ _ q => q)
  obtain ⟨z1, z2, z3, z4, z5, z6, z7, z8, z9⟩ := X_em0 (c := 11) (x := 0) (y := 0) x1 (by decide) (by decide)
  generalize em0 B3 11 0 0 = B4 at *
  have fr4 : FrS PS B B4 := by
    intro b y q
    have hb : ¬ (42 ≤ b ∧ b ≤ 46) := by unfold PS at q; omega
    rw [z9 b y hb, x4 b y (by unfold PS at q; unfold CF; omega), o2 b y (by unfold PS at q; omega) (by unfold PS at q; omega) (by unfold PS at q; omega) (by unfold PS at q; omega) (by unfold PS at q; omega) (by unfold PS at q; omega)]
    exact q12 b y (by unfold PS at q; unfold Kq; omega)
  have seg4 : Seg B4 (B4 48 0) (B4 47 0) e 0 [] 0 := Seg_CF (t := 0) z2 q3 (by omega) (by omega) (by omega) x5 rfl
  unfold r_prepare_49
  have e9 : B4 9 t = B 9 t := fr4 9 t (by unfold PS; omega)
  rw [e9]
  refine ⟨t0, t1, ?_⟩
  have w : ∀ b y, b ≠ 57 → b ≠ 58 → (u2 (u2 B4 57 0 (B 9 t)) 58 0 (1000 * t)) b y = B4 b y := fun b y a1 a2 => by rw [u2_bank a2, u2_bank a1]
  have w57 : (u2 (u2 B4 57 0 (B 9 t)) 58 0 (1000 * t)) 57 0 = B 9 t := by rw [u2_bank (by decide), u2_same]
  have w58 : (u2 (u2 B4 57 0 (B 9 t)) 58 0 (1000 * t)) 58 0 = 1000 * t := u2_same
  generalize u2 (u2 B4 57 0 (B 9 t)) 58 0 (1000 * t) = B5 at *
  have gi5 : GI B5 := GI_eq z1.2.2.2.2.2.2.2.2.2 (fun b y q => w b y (by omega) (by omega))
  have e48 : B5 48 0 = cs e := by rw [w 48 0 (by decide) (by decide)]; omega
  have e47 : B5 47 0 = cm e := by rw [w 47 0 (by decide) (by decide)]; omega
  have e46 : B5 46 0 = cl e + 1 := by rw [w 46 0 (by decide) (by decide)]; exact z1.1
  have seg5 : Seg B5 (B5 48 0) (B5 47 0) e 0 [] 0 := by
    rw [w 48 0 (by decide) (by decide), w 47 0 (by decide) (by decide)]
    exact Seg_fr (fun y _ _ => w 52 y (by decide) (by decide)) (fun y _ _ => w 54 y (by decide) (by decide)) (fun y _ _ => w 53 y (by decide) (by decide)) (fun y => w 27 y (by decide) (by decide)) (Int.le_refl _) (Int.le_refl _) e 0 [] 0 q3 (fun b y b1 b2 _ _ => w b y (by omega) (by omega)) seg4
  have tx5 : TXT B5 := ⟨by rw [w57]; exact n0, by rw [w57]; exact n1, by rw [w58]; omega, by rw [w58]; omega, fun x x0 x1' => by rw [w 5 x (by decide) (by decide), fr4 5 x (by unfold PS; omega)]; exact htx x x0 x1'⟩
  have pre5 : PRE B5 e := ⟨seg5, by rw [w 42 _ (by decide) (by decide)]; exact z5, e46, gi5, e47, e48, tx5, q3, hn, hw, d1⟩
  have hk := PRE_56 pre5
  refine qZ.mono (d := d + 2) (R_newSearch hm hk.1 (by omega) (by rw [w57]; exact n0) (by rw [w57]; exact n1) (fun B6 e1 e2 => ⟨rfl, ?_⟩)) (by omega) (fun _ _ q => q)
  unfold r_prepare_73
  have pre6 : PRE B6 e := PRE_fr pre5 (fun b y q => e1 b y (by unfold SB at q; omega))
  refine k B6 pre6 ?_ ((e1 57 0 (by decide)).trans w57) ((e1 58 0 (by decide)).trans w58) (fun b y q => ?_)
  · rw [e1 56 0 (by decide), e1 57 0 (by decide)]
    exact e2
  · by_cases hb : b = 67
    · subst hb; unfold PS at q; omega
    · rw [e1 b y hb, w b y (by unfold PS at q; omega) (by unfold PS at q; omega)]
      exact fr4 b y q
end PREP
