/-! THE REFERENCE READS A SET -/
section RMANY
variable {m : Nat} {h0 : qH} {d : Nat} {B : qB} {Q : qO → qB → Prop}
theorem Kp_SS {s : Int} : ∀ b y, Kp b y → SS s b y := by
  intro b y h
  unfold Kp at h
  unfold SS
  omega
theorem Kp_StN {N M : Int} : ∀ b y, Kp b y → StN N M b y := by
  intro b y h
  unfold Kp at h
  unfold StN
  omega
theorem FrS.sub {S S' : Nat → Int → Prop} {B B' : qB} (h : FrS S' B B') (hs : ∀ b y, S b y → S' b y) : FrS S B B' := fun b y q => h b y (hs b y q)
theorem FrS.tr {S : Nat → Int → Prop} {B B1 B2 : qB} (h : FrS S B B1) (h2 : FrS S B1 B2) : FrS S B B2 := FrS.trans h h2 (fun _ _ q => q)
theorem sgB_SS {s : Int} {B1 : qB} (h : FrS (SS s) B B1) : sgB B1 = sgB B := sgB_eq (h 32 0 (by unfold SS; omega)) (fun i => h 31 i (by unfold SS; omega))
theorem PO_SS {s : Int} {B1 : qB} (hp : PO B) (h : FrS (SS s) B B1) : PO B1 := hp.eq (h 32 0 (by unfold SS; omega)) (fun i => h 31 i (by unfold SS; omega))
theorem lt_iff {v s : Int} (h : SgV v s) (c : Int) (h1 : 32 ≤ c) (h2 : c ≤ 126) : (v = c) ↔ (s = c) := by
  unfold SgV at h
  omega
theorem R_compl (hm : m + 100 < 1000000000) {s : Int} (hs1 : 0 ≤ s) (hs2 : s < 256) : ∀ (n : Nat) (x : Int) (B1 : qB), x + n = 4 → 0 ≤ x → (∀ B2, FrS (SS s) B1 B2 → B2 33 0 = B1 33 0 → (∀ c, 0 ≤ c → c < 256 → hasB B2 s c = if c / 64 < x then hasB B1 s c else !hasB B1 s c) → Q (.inl none) B2) → qZ m h0 (d + 1) k_many 287 [some (.ref m), some (iv s), none, none, some (iv x), none, none, none] [] B1 Q := by
  intro n
  induction n with
  | zero =>
    intro x B1 hx hx0 k
    refine r_many_287_ok hm ?_
    unfold r_many_287
    refine ⟨⟨by omega, by omega⟩, fun _ => k B1 FrS.refl rfl (fun c c1 c2 => ?_), fun q => by omega⟩
    rw [if_pos (by omega)]
  | succ n ih =>
    intro x B1 hx hx0 k
    refine r_many_287_ok hm ?_
    unfold r_many_287
    refine ⟨⟨by omega, by omega⟩, fun q => by omega, fun _ => ⟨by omega, by omega, ih (x + 1) _ (by omega) (by omega) (fun B2 f2 a2 k2 => k B2 ?_ ?_ (fun c c1 c2 => ?_))⟩⟩
    · exact FrS.tr (FrS.u2 FrS.refl (by unfold SS; omega)) f2
    · rw [a2, u2_bank (by decide)]
    · rw [k2 c c1 c2]
      have hb : hasB (u2 B1 27 (4 * s + x) (lXor (B1 27 (4 * s + x)) (-1))) s c = if c / 64 = x then !hasB B1 s c else hasB B1 s c := by
        unfold hasB
        by_cases e : c / 64 = x
        · rw [if_pos e, e, u2_same, lb_xor, lb_m1 _ (by omega)]
          simp
        · rw [if_neg e, u2_idx (by omega)]
      rw [hb]
      by_cases e1 : c / 64 < x
      · rw [if_pos (by omega), if_neg (by omega), if_pos e1]
      · by_cases e2 : c / 64 = x
        · rw [if_pos (by omega), if_pos e2, if_neg e1]
        · rw [if_neg (by omega), if_neg e2, if_neg e1]
theorem R_many (hm : m + 100 < 1000000000) {s : Int} (hp : PO B) (hf : B 35 0 = -1) (h1 : 0 ≤ B 33 0) (h2 : B 33 0 < 200) (hs1 : 0 ≤ s) (hs2 : s < 256) (hS : SE B s (fun _ => false))
    (kE : ∀ w B', sSet (sgB B) (B 33 0) = .error w → 0 ≤ w → Er B B' w → Q (.inl none) B')
    (kO : ∀ K a B', sSet (sgB B) (B 33 0) = .ok (K, a) → B 33 0 < a → a ≤ 200 → LSt B s B' a K → Q (.inl none) B') : qZ m h0 (d + 5) k_many 0 [some (.ref m), some (iv s), none, none, none, none, none, none] [] B Q := by
  have c01 : ∀ z : Int, (z = 0 ∨ z = 1) → R32 z := fun z q => ⟨by omega, by omega⟩
  -- a broken one
  have F270 : ∀ (ng w : Int) (B1 : qB), (ng = 0 ∨ ng = 1) → sSet (sgB B) (B 33 0) = .error w → 0 ≤ w → B1 33 0 ≤ 4000 → Er B B1 w → r_many_270 m h0 (d + 4) s ng B1 Q := by
    intro ng w B1 hn he hw hb hE
    have hE2 : Er B (u2 B1 33 0 (B1 33 0 + 1)) w := ⟨by rw [u2_bank (by decide)]; exact hE.1, FrS.u2 hE.2.1 (by unfold Kp; omega), by rw [u2_same]; have := hE.2.2.1; omega, by rw [u2_same]; omega, hE.2.2.2.2⟩
    unfold r_many_270
    refine ⟨c01 _ hn, fun _ => kE w _ he hw hE2, fun _ => ?_⟩
    refine R_compl hm hs1 hs2 4 0 _ (by omega) (by omega) (fun B2 f2 a2 k2 => kE w _ he hw ⟨?_, ?_, by rw [a2]; exact hE2.2.2.1, by rw [a2]; exact hE2.2.2.2.1, hE2.2.2.2.2⟩)
    · rw [f2 35 0 (by unfold SS; omega)]; exact hE2.1
    · exact FrS.tr hE2.2.1 (f2.sub Kp_SS)
  have L : ∀ (ng st : Int), (ng = 0 ∨ ng = 1) → 0 ≤ st → (∀ w, sMem (sgB B) st 201 st (fun _ => false) = .error w → sSet (sgB B) (B 33 0) = .error w) → (∀ K a B', sMem (sgB B) st 201 st (fun _ => false) = .ok (K, a) → st < a → a ≤ 200 → LSt B s B' (a - 1) K → r_many_270 m h0 (d + 4) s ng B' Q) → ∀ (f : Nat) (a : Int) (P : Nat → Bool) (B1 : qB), (f : Int) + a ≥ 201 → st ≤ a → a ≤ 200 → LSt B s B1 a P → sMem (sgB B) st f a P = sMem (sgB B) st 201 st (fun _ => false) → qZ m h0 (d + 5) k_many 48 [some (.ref m), some (iv s), some (iv ng), some (iv st), none, none, none, none] [] B1 Q := by
    intro ng st hn hst0 hE hO f
    induction f with
    | zero => intro a P B1 q1 q2 q3; omega
    | succ f ih =>
      intro a P B1 q1 q2 q3 hL hM
      obtain ⟨hfr, ha, hse⟩ := hL
      have hp1 := PO_SS hp hfr
      have hsg := sgB_SS hfr
      have hf1 : B1 35 0 = -1 := (hfr 35 0 (by unfold SS; omega)).trans hf
      have unf : sMem (sgB B) st (f + 1) a P = (if sgB B a < 0 ∨ (sgB B a = 93 ∧ a = st) then .error a else if sgB B a = 93 then .ok (P, a + 1) else if sgB B a = 92 then (match sEsc (sgB B) (a + 1) with
        | .error w => .error w
        | .ok (K, a) => sMem (sgB B) st f a (fun c => P c || K c)) else if sgB B (a + 1) = 45 ∧ sgB B (a + 2) ≠ 92 ∧ sgB B (a + 2) ≠ 93 ∧ 0 ≤ sgB B (a + 2) then (if sgB B (a + 2) < sgB B a then .error a else sMem (sgB B) st f (a + 3) (fun c => P c || (decide (sgB B a ≤ (c : Int)) && decide ((c : Int) ≤ sgB B (a + 2))))) else sMem (sgB B) st f (a + 1) (fun c => P c || decide ((c : Int) = sgB B a))) := rfl
      rw [unf] at hM
      have n94 : (sgB B a < 0 ∨ (sgB B a = 93 ∧ a = st)) → r_many_94 m h0 (d + 4) B1 Q := by
        intro q
        rw [if_pos q] at hM
        unfold r_many_94
        refine qZ.mono (d := d + 1) (R_wrong hm hf1 ⟨_, rfl, ?_⟩) (by omega) (fun _ _ q => q)
        unfold r_many_102
        rw [ha]
        exact kE a _ (hE a hM.symm) (by omega) (Er_mk (hfr.sub Kp_SS) (by omega) (by omega) (by omega))
      refine r_many_48_ok hm ?_
      unfold r_many_48
      rw [hf1, ha]
      refine ⟨⟨by decide, by decide⟩, fun q => by omega, fun _ => ?_⟩
      refine qZ.mono (d := d + 1) (R_signAt hm hp1 (by omega) (by omega) (fun v s0 r0 => ⟨_, rfl, ?_⟩)) (by omega) (fun _ _ q => q)
      rw [hsg] at s0
      have n104 : 32 ≤ v → v ≤ 126 → ¬ (sgB B a < 0 ∨ (sgB B a = 93 ∧ a = st)) → r_many_104 m h0 (d + 4) s ng st v B1 Q := by
        intro v1 v2 hq
        have ev : v = sgB B a := by unfold SgV at s0; omega
        have hlt : a < 200 := sg_end hp (by omega) (by omega)
        rw [if_neg hq] at hM
        unfold r_many_104
        refine ⟨r0, fun w1 => ?_, fun w1 => ?_⟩
        · rw [if_neg (by omega)] at hM
          refine ⟨fun w2 => ?_, fun w2 => ?_⟩
          · rw [if_neg (by omega)] at hM
            rw [ha, show a + 1 + 1 = a + 2 by omega]
            have hp2 : PO (u2 B1 33 0 (a + 1)) := hp1.u2 (by decide) (by decide)
            have hsg2 : sgB (u2 B1 33 0 (a + 1)) = sgB B := (sgB_u2 (by decide) (by decide)).trans hsg
            have hfr2 : FrS (SS s) B (u2 B1 33 0 (a + 1)) := FrS.u2 hfr (by unfold SS; omega)
            have hse2 : SE (u2 B1 33 0 (a + 1)) s P := SE_u2 hse (by decide)
            have n260 : sMem (sgB B) st f (a + 1) (fun c => P c || decide ((c : Int) = sgB B a)) = sMem (sgB B) st 201 st (fun _ => false) → r_many_260 m h0 (d + 4) s ng st v (u2 B1 33 0 (a + 1)) Q := by
              intro hM2
              unfold r_many_260
              refine qZ.mono (d := d + 1) (R_include hm hs1 hs2 (by omega) (by omega) ⟨rfl, ?_⟩) (by omega) (fun _ _ q => q)
              unfold r_many_267
              refine ih (a + 1) _ _ (by omega) (by omega) (by omega) ⟨SS_inc hfr2 (by omega) (by omega), ?_, SE_inc (by omega) (by omega) hse2⟩ ?_
              · unfold incB; rw [u2_bank (by decide), u2_same]
              · rw [ev]; exact hM2
            refine qZ.mono (d := d + 1) (R_signAt hm hp2 (by omega) (by omega) (fun v2 s2 r2 => ⟨_, rfl, ?_⟩)) (by omega) (fun _ _ q => q)
            rw [hsg2] at s2
            unfold r_many_165
            rw [u2_same]
            refine qZ.mono (d := d + 1) (R_signAt hm hp2 (by omega) (by omega) (fun v3 s3 r3 => ⟨_, rfl, ?_⟩)) (by omega) (fun _ _ q => q)
            rw [hsg2] at s3
            have i45 := lt_iff s3 45 (by decide) (by decide)
            have i92 := lt_iff s2 92 (by decide) (by decide)
            have i93 := lt_iff s2 93 (by decide) (by decide)
            unfold r_many_175
            refine ⟨r3, fun w3 => n260 ?_, fun w3 => ⟨r2, fun w4 => n260 ?_, fun w4 => ⟨fun w5 => n260 ?_, fun w5 => ⟨fun w6 => n260 ?_, fun w6 => ⟨fun w7 => n260 ?_, fun w7 => ⟨r0, fun w8 => ?_, fun w8 => ?_⟩⟩⟩⟩⟩⟩
            · rw [if_neg (by omega)] at hM; exact hM
            · rw [if_neg (by omega)] at hM; exact hM
            · rw [if_neg (by omega)] at hM; exact hM
            · rw [if_neg (by unfold SgV at s2; omega)] at hM; exact hM
            · rw [if_neg (by unfold SgV at s2; omega)] at hM; exact hM
            · have ev2 : v2 = sgB B (a + 2) := by unfold SgV at s2; omega
              have hlt2 : a + 2 < 200 := sg_end hp (by omega) (by omega)
              rw [if_pos (by omega), if_neg (by omega)] at hM
              have RL : ∀ (n : Nat) (x : Int) (B2 : qB), x + n = v2 + 1 → v ≤ x → FrS (SS s) B B2 → B2 33 0 = a + 1 → SE B2 s (fun c => P c || (decide (sgB B a ≤ (c : Int)) && decide ((c : Int) < x))) → qZ m h0 (d + 5) k_many 227 [some (.ref m), some (iv s), some (iv ng), some (iv st), none, none, some (iv v2), some (iv x)] [] B2 Q := by
                intro n
                induction n with
                | zero =>
                  intro x B2 hx hx0 hf2 ha2 hs2'
                  refine r_many_227_ok hm ?_
                  unfold r_many_227
                  refine ⟨⟨by omega, by omega⟩, r2, fun _ => ?_, fun q => by omega⟩
                  unfold r_many_267
                  rw [ha2, show a + 1 + 2 = a + 3 by omega]
                  refine ih (a + 3) _ _ (by omega) (by omega) (by omega) ⟨FrS.u2 hf2 (by unfold SS; omega), u2_same, SE_ext (SE_u2 hs2' (by decide)) (fun c hc => ?_)⟩ hM
                  have : ((c : Int) < x) = ((c : Int) ≤ sgB B (a + 2)) := by simp; omega
                  simp only [this]
                | succ n ih2 =>
                  intro x B2 hx hx0 hf2 ha2 hs2'
                  refine r_many_227_ok hm ?_
                  unfold r_many_227
                  refine ⟨⟨by omega, by omega⟩, r2, fun q => by omega, fun _ => ?_⟩
                  refine qZ.mono (d := d + 1) (R_include hm hs1 hs2 (by omega) (by omega) ⟨rfl, ?_⟩) (by omega) (fun _ _ q => q)
                  unfold r_many_241
                  refine ih2 (x + 1) _ (by omega) (by omega) (SS_inc hf2 (by omega) (by omega)) (by unfold incB; rw [u2_bank (by decide)]; exact ha2) (SE_ext (SE_inc (by omega) (by omega) hs2') (fun c hc => ?_))
                  by_cases e1 : (c : Int) = x
                  · simp [e1, show sgB B a ≤ x by omega, show x < x + 1 by omega]
                  · have : ((c : Int) < x + 1) = ((c : Int) < x) := by simp; omega
                    simp only [this, e1, decide_false, Bool.or_false]
              refine RL (v2 + 1 - v).toNat v _ (by omega) (by omega) hfr2 u2_same (SE_ext hse2 (fun c hc => ?_))
              rw [Bool.eq_iff_iff]
              simp
              omega
            · have ev2 : v2 = sgB B (a + 2) := by unfold SgV at s2; omega
              rw [if_pos (by omega), if_pos (by omega)] at hM
              refine qZ.mono (d := d + 1) (R_wrong hm (by rw [u2_bank (by decide)]; exact hf1) ⟨_, rfl, ?_⟩) (by omega) (fun _ _ q => q)
              unfold r_many_221
              exact kE a _ (hE a hM.symm) (by omega) (Er_mk (hfr2.sub Kp_SS) (by rw [u2_same]; omega) (by rw [u2_same]; omega) (by omega))
          · rw [if_pos (by omega)] at hM
            rw [ha]
            have hp2 : PO (u2 B1 33 0 (a + 1)) := hp1.u2 (by decide) (by decide)
            have hsg2 : sgB (u2 B1 33 0 (a + 1)) = sgB B := (sgB_u2 (by decide) (by decide)).trans hsg
            have hfr2 : FrS (SS s) B (u2 B1 33 0 (a + 1)) := FrS.u2 hfr (by unfold SS; omega)
            have e33 : (u2 B1 33 0 (a + 1)) 33 0 = a + 1 := u2_same
            refine R_escape hm (P := P) hp2 (by rw [u2_bank (by decide)]; exact hf1) (by rw [e33]; omega) (by rw [e33]; omega) hs1 hs2 (SE_u2 hse (by decide)) (fun B' he hB' => ⟨rfl, ?_⟩) (fun K B' ho hl3 hB' => ⟨rfl, ?_⟩)
            · rw [e33, hsg2] at he
              rw [he] at hM
              have hE9 := hE (a + 1) hM.symm
              rw [e33] at hB'
              unfold r_many_136
              refine r_many_48_ok hm ?_
              unfold r_many_48
              have e35 : B' 35 0 = a + 1 := by rw [hB', u2_same]
              rw [e35]
              refine ⟨⟨by omega, by omega⟩, fun _ => F270 ng (a + 1) B' hn hE9 (by omega) ?_ ?_, fun q => by omega⟩
              · rw [hB', u2_bank (by decide), u2_same]; omega
              · rw [hB']
                exact Er_mk (hfr2.sub Kp_SS) (by rw [u2_same]; omega) (by rw [u2_same]; omega) (by omega)
            · rw [e33, hsg2] at ho
              rw [e33] at hl3 hB'
              rw [ho] at hM
              obtain ⟨g1, g2, g3⟩ := hB'
              unfold r_many_136
              exact ih (a + 1 + 1) _ B' (by omega) (by omega) (by omega) ⟨FrS.tr hfr2 g1, g2, g3⟩ hM
        · rw [if_pos (by omega)] at hM
          exact hO P (a + 1) B1 hM.symm (by omega) (by omega) ⟨hfr, by rw [ha]; omega, hse⟩
      unfold r_many_63
      refine ⟨r0, fun q => n94 (Or.inl (by unfold SgV at s0; omega)), fun q => ⟨fun w => n94 (Or.inl (by unfold SgV at s0; omega)), fun w => ⟨fun w2 => n104 q w (by unfold SgV at s0; omega), fun w2 => ?_⟩⟩⟩
      rw [ha]
      exact ⟨⟨by omega, by omega⟩, ⟨by omega, by omega⟩, fun w3 => n104 q w (by unfold SgV at s0; omega), fun w3 => n94 (Or.inr ⟨by unfold SgV at s0; omega, w3⟩)⟩
  refine r_many_0_ok hm ?_
  unfold r_many_0
  have hp2 : PO (u2 B 33 0 (B 33 0 + 1)) := hp.u2 (by decide) (by decide)
  have hsg2 : sgB (u2 B 33 0 (B 33 0 + 1)) = sgB B := sgB_u2 (by decide) (by decide)
  refine qZ.mono (d := d + 1) (R_signAt hm hp2 (by omega) (by omega) (fun v s0 r0 => ⟨_, rfl, ?_⟩)) (by omega) (fun _ _ q => q)
  rw [hsg2] at s0
  have i94 := lt_iff s0 94 (by decide) (by decide)
  unfold r_many_18
  refine ⟨r0, fun q => ?_, fun q => ?_⟩
  · unfold r_many_28
    refine ⟨⟨by decide, by decide⟩, fun _ => ?_, fun q => absurd rfl q⟩
    unfold r_many_43
    rw [u2_same]
    have un : sSet (sgB B) (B 33 0) = sMem (sgB B) (B 33 0 + 1) 201 (B 33 0 + 1) (fun _ => false) := by
      unfold sSet
      rw [if_neg (by omega)]
    refine L 0 (B 33 0 + 1) (Or.inl rfl) (by omega) (fun w hw => by rw [un]; exact hw) (fun K a B' hK a1 a2 hL => ?_) 201 (B 33 0 + 1) (fun _ => false) _ (by omega) (by omega) (by omega) ⟨FrS.u2 FrS.refl (by unfold SS; omega), u2_same, SE_u2 hS (by decide)⟩ rfl
    obtain ⟨g1, g2, g3⟩ := hL
    unfold r_many_270
    refine ⟨⟨by decide, by decide⟩, fun _ => ?_, fun q => absurd rfl q⟩
    rw [g2]
    exact kO K a _ (by rw [un]; exact hK) (by omega) a2 ⟨FrS.u2 g1 (by unfold SS; omega), by rw [u2_same]; omega, SE_u2 g3 (by decide)⟩
  · unfold r_many_28
    refine ⟨⟨by decide, by decide⟩, fun q => absurd q (by decide), fun _ => ?_⟩
    unfold r_many_43
    rw [u2_same, u2_u2, u2_same, show B 33 0 + 1 + 1 = B 33 0 + 2 by omega]
    have hlt : B 33 0 + 1 < 200 := sg_end hp (by omega) (by omega)
    refine L 1 (B 33 0 + 2) (Or.inr rfl) (by omega) (fun w hw => by unfold sSet; rw [if_pos (by omega), hw]) (fun K a B' hK a1 a2 hL => ?_) 201 (B 33 0 + 2) (fun _ => false) _ (by omega) (by omega) (by omega) ⟨FrS.u2 FrS.refl (by unfold SS; omega), u2_same, SE_u2 hS (by decide)⟩ rfl
    obtain ⟨g1, g2, g3⟩ := hL
    unfold r_many_270
    refine ⟨⟨by decide, by decide⟩, fun q => absurd q (by decide), fun _ => ?_⟩
    rw [g2]
    have g4 : SE (u2 B' 33 0 (a - 1 + 1)) s K := SE_u2 g3 (by decide)
    refine R_compl hm hs1 hs2 4 0 _ (by omega) (by omega) (fun B2 f2 a2' k2 => kO (fun c => !K c) a _ ?_ (by omega) a2 ⟨FrS.tr (FrS.u2 g1 (by unfold SS; omega)) f2, ?_, fun c c1 c2 => ?_⟩)
    · unfold sSet
      rw [if_pos (by omega), hK]
    · rw [a2', u2_same]; omega
    · rw [k2 c c1 c2, if_neg (by omega), g4 c c1 c2]
end RMANY
