/-! THE REFERENCE READS ATOMS AND QUANTIFIERS -/
/-- reading a piece answered node v, which stands for e, and came to place a -/
def EP (B B' : qB) (v : Int) (e : qT) (a c s : Int) : Prop := nd B' (B' 28 0) (B' 29 0) e v ∧ FrS (StN (B 28 0) (B 29 0)) B B' ∧ B' 33 0 = a ∧ B' 35 0 = -1 ∧ B 28 0 ≤ B' 28 0 ∧ B' 28 0 ≤ B 28 0 + c ∧ B 29 0 ≤ B' 29 0 ∧ B' 29 0 ≤ B 29 0 + s
theorem StN_SS {N M s : Int} (h : M ≤ s) : ∀ b y, StN N M b y → SS s b y := by
  intro b y q
  unfold StN at q
  unfold SS
  omega
section RATOM
variable {m : Nat} {h0 : qH} {d : Nat} {B : qB} {Q : qO → qB → Prop}
theorem EP_num {k a : Int} (hk : 1 ≤ k) (hN : 0 ≤ B 28 0) (hf : B 35 0 = -1) : EP B (u2 (nnB (u2 B 33 0 a) (6 + k) 0 0) 24 (B 28 0) 1) (B 28 0) (.num k) a 1 1 := by
  have e28 : (u2 B 33 0 a) 28 0 = B 28 0 := u2_bank (by decide)
  have hn : (u2 (nnB (u2 B 33 0 a) (6 + k) 0 0) 24 (B 28 0) 1) 28 0 = B 28 0 + 1 := by
    rw [u2_bank (by decide)]; unfold nnB; rw [u2_same, e28]
  have hm' : (u2 (nnB (u2 B 33 0 a) (6 + k) 0 0) 24 (B 28 0) 1) 29 0 = B 29 0 := by simp [nnB, u2]
  refine ⟨?_, ?_, ?_, ?_, ?_, ?_, ?_, ?_⟩
  · rw [hn, hm']
    refine ⟨hN, by omega, ?_, ?_, ?_⟩
    · rw [if_neg (by omega)]; simp [nnB, u2]
    · unfold wR; rw [if_neg (by omega)]; exact u2_same
    · simp [nnB, u2]
  · exact FrS.u2 (nnB_fr (FrS.u2 FrS.refl (by unfold StN; omega)) (by rw [e28]; omega)) (by unfold StN; omega)
  · simp [nnB, u2]
  · simp [nnB, u2]; exact hf
  · rw [hn]; omega
  · rw [hn]; omega
  · rw [hm']; omega
  · rw [hm']; omega
theorem EP_var {B3 B' : qB} {K : Nat → Bool} {a : Int} (hN : 0 ≤ B 28 0) (hM : 0 ≤ B 29 0) (h3 : FrS (StN (B 28 0) (B 29 0)) B B3) (e28 : B3 28 0 = B 28 0 + 1) (e29 : B3 29 0 = B 29 0 + 1) (e17 : B3 17 (B 28 0) = 0) (e23 : B3 23 (B 28 0) = B 29 0) (e24 : B3 24 (B 28 0) = 1) (e25 : B3 25 (B 28 0) = 0) (e35 : B3 35 0 = -1) (hL : LSt B3 (B 29 0) B' a K) : EP B B' (B 28 0) (.var (mkset K)) a 1 1 := by
  obtain ⟨g1, g2, g3⟩ := hL
  have st : ∀ b y, b ≠ 33 → b ≠ 27 → B' b y = B3 b y := fun b y q1 q2 => g1 b y ⟨q1, fun q => q2 q.1⟩
  have n28 : B' 28 0 = B 28 0 + 1 := (st 28 0 (by decide) (by decide)).trans e28
  have n29 : B' 29 0 = B 29 0 + 1 := (st 29 0 (by decide) (by decide)).trans e29
  have n23 : B' 23 (B 28 0) = B 29 0 := (st 23 _ (by decide) (by decide)).trans e23
  refine ⟨?_, FrS.trans h3 g1 (StN_SS (Int.le_refl _)), g2, (st 35 0 (by decide) (by decide)).trans e35, by omega, by omega, by omega, by omega⟩
  rw [n28, n29]
  refine ⟨hN, by omega, (st 17 _ (by decide) (by decide)).trans e17, by omega, by omega, ?_, (st 24 _ (by decide) (by decide)).trans e24, (st 25 _ (by decide) (by decide)).trans e25⟩
  intro c c1 c2
  rw [n23, g3 c c1 c2, mkset_bit _ _ (by omega)]
theorem R_atom (hm : m + 100 < 1000000000) (hp : PO B) (hf : B 35 0 = -1) (h1 : 0 ≤ B 33 0) (h2 : B 33 0 ≤ 200) (hN1 : 0 ≤ B 28 0) (hN2 : B 28 0 < 3000) (hM1 : 0 ≤ B 29 0) (hM2 : B 29 0 < 256)
    (kE : ∀ w v B', sAt (sgB B) (B 33 0) = .error w → 0 ≤ w → Er B B' w → Q (.inl (some (iv v))) B')
    (kO : ∀ e a v B', sAt (sgB B) (B 33 0) = .ok (e, a) → B 33 0 < a → a ≤ 200 → EP B B' v e a 1 1 → Q (.inl (some (iv v))) B') : qZ m h0 (d + 6) k_atom 0 [some (.ref m), none, none, none] [] B Q := by
  have n45 : (sgB B (B 33 0) < 0 ∨ isQt (sgB B (B 33 0)) = true) → r_atom_45 m h0 (d + 5) B Q := by
    intro q
    unfold r_atom_45
    refine qZ.mono (d := d + 1) (R_wrong hm hf ⟨_, rfl, ?_⟩) (by omega) (fun _ _ q => q)
    unfold r_atom_53
    exact kE _ _ _ (by unfold sAt; rw [if_pos q]) h1 (Er_mk FrS.refl h1 (by omega) (by omega))
  -- a set
  have n151 : ∀ v, v = sgB B (B 33 0) → 32 ≤ v → v ≤ 126 → ¬ isQt v = true → ¬ v = 94 → ¬ v = 36 → (v = 92 → ¬ sgB B (B 33 0 + 1) = 98 ∧ ¬ sgB B (B 33 0 + 1) = 66) → r_atom_151 m h0 (d + 5) v B Q := by
    intro v ev v1 v2 nq n94 n36 nb
    have hlt : B 33 0 < 200 := sg_end hp h1 (by omega)
    have nq' : ¬ (sgB B (B 33 0) < 0 ∨ isQt (sgB B (B 33 0)) = true) := by
      rw [← ev]
      rintro (q | q)
      · omega
      · exact nq q
    unfold r_atom_151
    refine qZ.mono (d := d + 2) (R_single hm hN1 hN2 ⟨_, rfl, ?_⟩) (by omega) (fun _ _ q => q)
    generalize hB1 : u2 (nnB B 0 0 0) 24 (B 28 0) 1 = B1
    have f1 : FrS (StN (B 28 0) (B 29 0)) B B1 := by
      rw [← hB1]
      exact FrS.u2 (nnB_fr FrS.refl (by omega)) (by unfold StN; omega)
    have b28 : B1 28 0 = B 28 0 + 1 := by rw [← hB1, u2_bank (by decide)]; unfold nnB; rw [u2_same]
    have b29 : B1 29 0 = B 29 0 := by rw [← hB1]; simp [nnB, u2]
    have b17 : B1 17 (B 28 0) = 0 := by rw [← hB1]; simp [nnB, u2]
    have b24 : B1 24 (B 28 0) = 1 := by rw [← hB1]; exact u2_same
    have b25 : B1 25 (B 28 0) = 0 := by rw [← hB1]; simp [nnB, u2]
    have b33 : B1 33 0 = B 33 0 := by rw [← hB1]; simp [nnB, u2]
    have b35 : B1 35 0 = -1 := by rw [← hB1, ← hf]; simp [nnB, u2]
    unfold r_atom_156
    refine qZ.mono (d := d + 1) (R_newSet hm (by omega) (by omega) (fun B2 f2 a2 s2 => ⟨_, rfl, ?_⟩)) (by omega) (fun _ _ q => q)
    rw [b29] at f2 s2 ⊢
    unfold r_atom_166
    generalize hB3 : u2 (u2 B2 29 0 (B 29 0 + 1)) 23 (B 28 0) (B 29 0) = B3
    have st : ∀ b y, b ≠ 33 → b ≠ 27 → B2 b y = B1 b y := fun b y q1 q2 => f2 b y ⟨q1, fun q => q2 q.1⟩
    have f3 : FrS (StN (B 28 0) (B 29 0)) B B3 := by
      rw [← hB3]
      exact FrS.u2 (FrS.u2 (FrS.trans f1 f2 (StN_SS (Int.le_refl _))) (by unfold StN; omega)) (by unfold StN; omega)
    have c28 : B3 28 0 = B 28 0 + 1 := by rw [← hB3, u2_bank (by decide), u2_bank (by decide), st 28 0 (by decide) (by decide), b28]
    have c29 : B3 29 0 = B 29 0 + 1 := by rw [← hB3, u2_bank (by decide), u2_same]
    have c17 : B3 17 (B 28 0) = 0 := by rw [← hB3, u2_bank (by decide), u2_bank (by decide), st 17 _ (by decide) (by decide), b17]
    have c23 : B3 23 (B 28 0) = B 29 0 := by rw [← hB3, u2_same]
    have c24 : B3 24 (B 28 0) = 1 := by rw [← hB3, u2_bank (by decide), u2_bank (by decide), st 24 _ (by decide) (by decide), b24]
    have c25 : B3 25 (B 28 0) = 0 := by rw [← hB3, u2_bank (by decide), u2_bank (by decide), st 25 _ (by decide) (by decide), b25]
    have c33 : B3 33 0 = B 33 0 := by rw [← hB3, u2_bank (by decide), u2_bank (by decide), a2, b33]
    have c35 : B3 35 0 = -1 := by rw [← hB3, u2_bank (by decide), u2_bank (by decide), st 35 _ (by decide) (by decide), b35]
    have s3 : SE B3 (B 29 0) (fun _ => false) := by rw [← hB3]; exact SE_u2 (SE_u2 s2 (by decide)) (by decide)
    have p3 : PO B3 := hp.eq (f3 32 0 (by unfold StN; omega)) (fun i => f3 31 i (by unfold StN; omega))
    have g3 : sgB B3 = sgB B := sgB_eq (f3 32 0 (by unfold StN; omega)) (fun i => f3 31 i (by unfold StN; omega))
    have d33 : (u2 B2 29 0 (B 29 0 + 1)) 33 0 = B 33 0 := by rw [u2_bank (by decide), a2, b33]
    have fin : ∀ K a B', LSt B3 (B 29 0) B' a K → EP B B' (B 28 0) (.var (mkset K)) a 1 1 := fun K a B' hL => EP_var hN1 hM1 f3 c28 c29 c17 c23 c24 c25 c35 hL
    rw [d33, c23]
    refine ⟨hN1, hN2, ⟨by omega, by omega⟩, fun n46 => ⟨fun n92 => ⟨fun n91 => ⟨hN1, hN2, ?_⟩, fun e91 => ⟨hN1, hN2, ?_⟩⟩, fun e92 => ⟨hN1, hN2, ?_⟩⟩, fun e46 => ?_⟩
    · -- itself
      refine qZ.mono (d := d + 1) (R_include hm hM1 hM2 (by omega) (by omega) ⟨rfl, ?_⟩) (by omega) (fun _ _ q => q)
      unfold r_atom_277
      have i33 : incB B3 (B 29 0) v 33 0 = B 33 0 := by unfold incB; rw [u2_bank (by decide), c33]
      rw [i33]
      refine kO (.var (mkset fun c => decide ((c : Int) = sgB B (B 33 0)))) (B 33 0 + 1) _ _ ?_ (by omega) (by omega) (fin _ _ _ ⟨FrS.u2 (SS_inc FrS.refl (by omega) (by omega)) (by unfold SS; omega), u2_same, SE_u2 ?_ (by decide)⟩)
      · unfold sAt
        rw [if_neg nq', if_neg (by omega), if_neg (by omega), if_neg (by omega), if_neg (by omega), if_neg (by omega)]
      · rw [← ev]
        exact SE_ext (SE_inc (by omega) (by omega) s3) (fun c hc => by simp)
    · -- [ ]
      refine qZ.mono (d := d + 5) (R_many hm p3 c35 (by omega) (by omega) hM1 hM2 s3 (fun w B' he hw hE => ⟨rfl, ?_⟩) (fun K a B' ho a1 a2 hL => ⟨rfl, ?_⟩)) (by omega) (fun _ _ q => q)
      · rw [c33, g3] at he
        unfold r_atom_263
        refine kE w _ _ ?_ hw ⟨hE.1, FrS.trans (f3.sub Kp_StN) hE.2.1 (fun _ _ q => q), hE.2.2⟩
        unfold sAt
        rw [if_neg nq', if_neg (by omega), if_neg (by omega), if_neg (by omega), if_neg (by omega), if_pos (by omega), he]
      · rw [c33, g3] at ho
        rw [c33] at a1
        unfold r_atom_263
        refine kO _ a _ _ ?_ a1 a2 (fin _ _ _ hL)
        unfold sAt
        rw [if_neg nq', if_neg (by omega), if_neg (by omega), if_neg (by omega), if_neg (by omega), if_pos (by omega), ho]
    · -- \
      have e33 : (u2 B3 33 0 (B 33 0 + 1)) 33 0 = B 33 0 + 1 := u2_same
      have q3 : sgB (u2 B3 33 0 (B 33 0 + 1)) = sgB B := (sgB_u2 (by decide) (by decide)).trans g3
      have hsAt : sAt (sgB B) (B 33 0) = (match sEsc (sgB B) (B 33 0 + 1) with
          | .error w => .error w
          | .ok (K, a) => .ok (.var (mkset K), a)) := by
        unfold sAt
        rw [if_neg nq', if_neg (by omega), if_neg (by omega), if_pos (by omega), if_neg (nb e92).1, if_neg (nb e92).2]
        rfl
      refine qZ.mono (d := d + 4) (R_escape hm (P := fun _ => false) (p3.u2 (by decide) (by decide)) (by rw [u2_bank (by decide)]; exact c35) (by rw [e33]; omega) (by rw [e33]; omega) hM1 hM2 (SE_u2 s3 (by decide)) (fun B' he hB' => ⟨rfl, ?_⟩) (fun K B' ho hl3 hL => ⟨rfl, ?_⟩)) (by omega) (fun _ _ q => q)
      · rw [e33, q3] at he
        rw [e33] at hB'
        rw [he] at hsAt
        unfold r_atom_244
        refine kE _ _ _ hsAt (by omega) ?_
        rw [hB']
        exact Er_mk (FrS.u2 (f3.sub Kp_StN) (by unfold Kp; omega)) (by rw [u2_same]; omega) (by rw [u2_same]; omega) (by omega)
      · rw [e33, q3] at ho
        rw [e33] at hl3 hL
        rw [ho] at hsAt
        obtain ⟨w1, w2, w3⟩ := hL
        unfold r_atom_244
        refine kO _ _ _ _ hsAt (by omega) (by omega) (fin K _ _ ⟨FrS.tr (FrS.u2 FrS.refl (by unfold SS; omega)) w1, w2, SE_ext w3 (fun c hc => by simp)⟩)
    · -- .
      have D : ∀ (n : Nat) (x : Int) (B4 : qB), x + n = 256 → 0 ≤ x → FrS (SS (B 29 0)) B3 B4 → B4 33 0 = B 33 0 → SE B4 (B 29 0) (fun c => decide ((c : Int) < x) && decide (c ≠ 10)) → qZ m h0 (d + 6) k_atom 175 [some (.ref m), none, some (iv (B 28 0)), some (iv x)] [] B4 Q := by
        intro n
        induction n with
        | zero =>
          intro x B4 hx hx0 hf4 ha4 hs4
          refine r_atom_175_ok hm ?_
          unfold r_atom_175
          rw [ha4]
          refine ⟨⟨by omega, by omega⟩, fun _ => ?_, fun q => by omega⟩
          refine kO (.var (mkset fun c => decide (c ≠ 10))) (B 33 0 + 1) _ _ ?_ (by omega) (by omega) (fin _ _ _ ⟨FrS.u2 hf4 (by unfold SS; omega), u2_same, SE_ext (SE_u2 hs4 (by decide)) (fun c hc => ?_)⟩)
          · unfold sAt
            rw [if_neg nq', if_neg (by omega), if_neg (by omega), if_neg (by omega), if_pos (by omega)]
          · simp only [show ((c : Int) < x) by omega, decide_true, Bool.true_and]
        | succ n ih =>
          intro x B4 hx hx0 hf4 ha4 hs4
          have h23 : B4 23 (B 28 0) = B 29 0 := (hf4 23 _ (by unfold SS; omega)).trans c23
          refine r_atom_175_ok hm ?_
          unfold r_atom_175
          rw [h23]
          refine ⟨⟨by omega, by omega⟩, fun q => by omega, fun _ => ⟨fun q10 => ?_, fun q10 => ⟨hN1, hN2, ?_⟩⟩⟩
          · unfold r_atom_199
            refine ih (x + 1) B4 (by omega) (by omega) hf4 ha4 (SE_ext hs4 (fun c hc => ?_))
            by_cases e : (c : Int) = x
            · have : c = 10 := by omega
              subst this
              simp
            · have : ((c : Int) < x + 1) = ((c : Int) < x) := by simp; omega
              simp only [this]
          · refine qZ.mono (d := d + 1) (R_include hm hM1 hM2 (by omega) (by omega) ⟨rfl, ?_⟩) (by omega) (fun _ _ q => q)
            unfold r_atom_199
            refine ih (x + 1) _ (by omega) (by omega) (SS_inc hf4 (by omega) (by omega)) (by unfold incB; rw [u2_bank (by decide)]; exact ha4) (SE_ext (SE_inc (by omega) (by omega) hs4) (fun c hc => ?_))
            by_cases e : (c : Int) = x
            · have : ¬ c = 10 := by omega
              simp [e, this, show x < x + 1 by omega]
            · have : ((c : Int) < x + 1) = ((c : Int) < x) := by simp; omega
              simp only [this, e, decide_false, Bool.or_false]
      refine D 256 0 B3 (by omega) (by omega) FrS.refl c33 (SE_ext s3 (fun c hc => ?_))
      simp
      omega
  have one : ∀ k a : Int, 1 ≤ k → sAt (sgB B) (B 33 0) = .ok (.num k, a) → B 33 0 < a → a ≤ 200 → Q (.inl (some (iv (B 28 0)))) (u2 (nnB (u2 B 33 0 a) (6 + k) 0 0) 24 (B 28 0) 1) := fun k a hk he a1 a2 => kO _ _ _ _ he a1 a2 (EP_num hk hN1 hf)
  have e28 : ∀ a, (u2 B 33 0 a) 28 0 = B 28 0 := fun a => u2_bank (by decide)
  refine r_atom_0_ok hm ?_
  unfold r_atom_0
  refine qZ.mono (d := d + 1) (R_signAt hm hp h1 (by omega) (fun v s0 r0 => ⟨_, rfl, ?_⟩)) (by omega) (fun _ _ q => q)
  have qt : ∀ z : Int, (z = 42 ∨ z = 43 ∨ z = 63 ∨ z = 123) → isQt z = true := by
    intro z q
    unfold isQt
    simp
    omega
  unfold r_atom_8
  refine ⟨r0, fun q => n45 (Or.inl (by unfold SgV at s0; omega)), fun v1 => ⟨fun q => n45 (Or.inl (by unfold SgV at s0; omega)), fun v2 => ?_⟩⟩
  have ev : v = sgB B (B 33 0) := by unfold SgV at s0; omega
  have hlt : B 33 0 < 200 := sg_end hp h1 (by omega)
  have h66 : (v = 94 ∨ v = 36) → r_atom_66 m h0 (d + 5) v B Q := by
    intro q
    have nq : ¬ (sgB B (B 33 0) < 0 ∨ isQt (sgB B (B 33 0)) = true) := by
      rw [← ev]
      unfold isQt
      simp
      omega
    unfold r_atom_66
    refine ⟨r0, fun q2 => ?_, fun q2 => ?_⟩
    · unfold r_atom_90
      refine qZ.mono (d := d + 2) (R_single hm (by rw [e28]; omega) (by rw [e28]; omega) ⟨_, rfl, ?_⟩) (by omega) (fun _ _ q => q)
      unfold r_atom_93
      rw [e28]
      exact one 2 _ (by decide) (by unfold sAt; rw [if_neg nq, if_neg (by omega), if_pos (by omega)]) (by omega) (by omega)
    · unfold r_atom_90
      refine qZ.mono (d := d + 2) (R_single hm (by rw [e28]; omega) (by rw [e28]; omega) ⟨_, rfl, ?_⟩) (by omega) (fun _ _ q => q)
      unfold r_atom_93
      rw [e28]
      exact one 1 _ (by decide) (by unfold sAt; rw [if_neg nq, if_pos (by omega)]) (by omega) (by omega)
  refine ⟨fun q => n45 (Or.inr (qt _ (by omega))), fun w1 => ⟨fun q => n45 (Or.inr (qt _ (by omega))), fun w2 => ⟨fun q => n45 (Or.inr (qt _ (by omega))), fun w3 => ⟨fun w4 => ?_, fun q => n45 (Or.inr (qt _ (by omega)))⟩⟩⟩⟩
  have nq : ¬ isQt v = true := by
    unfold isQt
    simp
    omega
  refine ⟨fun q => h66 (Or.inl q), fun w5 => ⟨fun w6 => ⟨fun w7 => ?_, fun w7 => ?_⟩, fun q => h66 (Or.inr q)⟩⟩
  · exact n151 v ev v1 v2 nq w5 w6 (fun q => absurd q w7)
  · refine qZ.mono (d := d + 1) (R_signAt hm hp (by omega) (by omega) (fun v' s' r' => ⟨_, rfl, ?_⟩)) (by omega) (fun _ _ q => q)
    have i98 := lt_iff s' 98 (by decide) (by decide)
    have i66 := lt_iff s' 66 (by decide) (by decide)
    have nq2 : ¬ (sgB B (B 33 0) < 0 ∨ isQt (sgB B (B 33 0)) = true) := by
      rw [← ev]
      rintro (q | q)
      · omega
      · exact nq q
    have n123 : (v' = 98 ∨ v' = 66) → r_atom_123 m h0 (d + 5) v' B Q := by
      intro q
      have hlt2 : B 33 0 + 1 < 200 := sg_end hp (by omega) (by omega)
      unfold r_atom_123
      refine ⟨r', fun q2 => ?_, fun q2 => ?_⟩
      · unfold r_atom_147
        refine qZ.mono (d := d + 2) (R_single hm (by rw [e28]; omega) (by rw [e28]; omega) ⟨_, rfl, ?_⟩) (by omega) (fun _ _ q => q)
        unfold r_atom_150
        rw [e28]
        exact one 4 _ (by decide) (by unfold sAt; rw [if_neg nq2, if_neg (by omega), if_neg (by omega), if_pos (by omega), if_neg (by omega), if_pos (by omega)]) (by omega) (by omega)
      · unfold r_atom_147
        refine qZ.mono (d := d + 2) (R_single hm (by rw [e28]; omega) (by rw [e28]; omega) ⟨_, rfl, ?_⟩) (by omega) (fun _ _ q => q)
        unfold r_atom_150
        rw [e28]
        exact one 3 _ (by decide) (by unfold sAt; rw [if_neg nq2, if_neg (by omega), if_neg (by omega), if_pos (by omega), if_pos (by omega)]) (by omega) (by omega)
    unfold r_atom_110
    refine ⟨r', fun q => n123 (Or.inl q), fun q => ⟨fun q2 => n151 v ev v1 v2 nq w5 w6 (fun _ => ⟨by omega, by omega⟩), fun q2 => n123 (Or.inr q2)⟩⟩
end RATOM
