/-! THE REFERENCE READS A PATTERN: brackets, and all of it -/
def lkF : List sF → Int
  | [] => 0
  | (hw, _, _, _) :: r => (if hw = 5 ∨ hw = 6 then 1 else 0) + lkF r
theorem lkF_bd : ∀ fr : List sF, 0 ≤ lkF fr ∧ lkF fr ≤ fr.length := by
  intro fr
  induction fr with
  | nil => exact ⟨Int.le_refl _, Int.le_refl _⟩
  | cons f r ih =>
    obtain ⟨hw, g, wy, rw⟩ := f
    show 0 ≤ (if hw = 5 ∨ hw = 6 then (1 : Int) else 0) + lkF r ∧ (if hw = 5 ∨ hw = 6 then (1 : Int) else 0) + lkF r ≤ _
    rw [List.length_cons]
    split <;> omega
/-- what holds of a state of reading -/
def CI (c : sC) : Prop := 0 ≤ c.1 ∧ c.1 ≤ 200 ∧ 1 ≤ c.2.2.2.length ∧ c.2.2.2.length ≤ 11 ∧ 0 ≤ c.2.1 ∧ c.2.1 ≤ 9 ∧ c.2.2.1 = lkF c.2.2.2 ∧ frW c.2.2.2 ∧ frL c.2.2.2 ≤ c.1
/-- the reference's memory holds it -/
def PR (B : qB) (c : sC) : Prop := FM B c.2.2.2 ∧ B 33 0 = c.1 ∧ B 30 0 = c.2.1 ∧ B 26 0 = c.2.2.1 ∧ B 35 0 = -1 ∧ 0 ≤ B 28 0 ∧ B 28 0 ≤ 1 + 5 * c.1 ∧ 0 ≤ B 29 0 ∧ B 29 0 ≤ c.1
section RLOOP
variable {m : Nat} {h0 : qH} {d : Nat} {B : qB} {Q : qO → qB → Prop}
theorem R_bracket (hm : m + 100 < 1000000000) {at' gr lk : Int} {fr : List sF} (hp : PO B) (hPR : PR B (at', gr, lk, fr)) (hCI : CI (at', gr, lk, fr)) (hsg : sgB B at' = 40)
    (kE : ∀ w B', sBr (sgB B) at' gr lk fr = .error w → 0 ≤ w → Er B B' w → Q (.inl none) B')
    (kO : ∀ c' B', sBr (sgB B) at' gr lk fr = .ok c' → at' < c'.1 → PR B' c' → CI c' → FrS Kp B B' → Q (.inl none) B') : qZ m h0 (d + 3) k_bracket 0 [some (.ref m), none, none, none, none] [] B Q := by
  obtain ⟨hFM, h33, h30, h26, h35, n1, n2, s1, s2⟩ := hPR
  obtain ⟨i1, i2, i3, i4, i5, i6, i7, i8, i9⟩ := hCI
  dsimp only at h33 h30 h26 n2 s2 i1 i2 i3 i4 i5 i6 i7 i8 i9 hFM
  have hlt : at' < 200 := sg_end hp i1 (by omega)
  have hlk := lkF_bd fr
  have h41 : B 41 0 = fr.length := hFM.1
  -- opening
  have op : ∀ (hw g a gr' lk' : Int) (B1 : qB), (hw = 1 ∨ hw = 4 ∨ hw = 5 ∨ hw = 6) → (hw = 4 → 1 ≤ g ∧ g ≤ 9) → (hw ≠ 4 → g = 0) → FM B1 fr → B1 33 0 = a → at' < a → a ≤ 200 → B1 30 0 = gr' → 0 ≤ gr' → gr' ≤ 9 → B1 26 0 = lk' → lk' = (if hw = 5 ∨ hw = 6 then 1 else 0) + lkF fr → B1 35 0 = -1 → B1 28 0 = B 28 0 → B1 29 0 = B 29 0 → FrS Kp B B1 → fr.length ≤ 10 → sBr (sgB B) at' gr lk fr = .ok (a, gr', lk', (hw, g, none, .num 0) :: fr) → r_bracket_197 m h0 (d + 2) at' hw g B1 Q := by
    intro hw g a gr' lk' B1 t1 t2 t3 f1 e33 a1 a2 e30 g1 g2 e26 el e35 e28 e29 fk hl hs
    unfold r_bracket_197
    refine R_opens hm (by omega) (by omega) f1 hl (fun B' F' q28 q29 qO => ⟨rfl, ?_⟩)
    unfold r_bracket_204
    refine kO _ _ hs a1 ⟨F', ?_, ?_, ?_, ?_, ?_, ?_, ?_, ?_⟩ ⟨?_, a2, ?_, ?_, g1, g2, el, ⟨t1, t2, t3, trivial, ⟨by decide, by decide⟩, i8⟩, ?_⟩ ?_
    · rw [qO 33 0 (by omega)]; exact e33
    · rw [qO 30 0 (by omega)]; exact e30
    · rw [qO 26 0 (by omega)]; exact e26
    · rw [qO 35 0 (by omega)]; exact e35
    · omega
    · show B' 28 0 ≤ 1 + 5 * a; omega
    · omega
    · show B' 29 0 ≤ a; omega
    · show 0 ≤ a; omega
    · simp
    · simp; omega
    · show 0 + 0 + frL fr ≤ a; omega
    · exact FrS.tr fk (fun b y q => qO b y (by unfold Kp at q; omega))
  have wr : ∀ (x : Int) (B1 : qB), B1 35 0 = -1 → FrS Kp B B1 → 0 ≤ x → x ≤ 300 → 0 ≤ B1 33 0 → B1 33 0 ≤ 300 → sBr (sgB B) at' gr lk fr = .error x → Q (.inl none) (u2 B1 35 0 x) := fun x B1 e35 fk x0 x1 y0 y1 hs => kE x _ hs x0 (Er_mk fk y0 (by omega) (by omega))
  refine r_bracket_0_ok hm ?_
  unfold r_bracket_0
  rw [h41, h33]
  refine ⟨⟨by omega, by omega⟩, fun q => ?_, fun q => ?_⟩
  · have hl10 : fr.length ≤ 10 := by omega
    have nl : ¬ fr.length = 11 := by omega
    have hp1 : ∀ a, PO (u2 B 33 0 a) := fun a => hp.u2 (by decide) (by decide)
    have hs1 : ∀ a, sgB (u2 B 33 0 a) = sgB B := fun a => sgB_u2 (by decide) (by decide)
    have FM1 : ∀ a, FM (u2 B 33 0 a) fr := by
      intro a
      refine ⟨by rw [u2_bank (by decide)]; exact hFM.1, ?_⟩
      rw [u2_bank (by decide), u2_bank (by decide)]
      exact frR_fr (Int.le_refl _) (Int.le_refl _) fr (FrS.u2 FrS.refl (by unfold NdS; omega)) (fun b y p1 p2 p3 p4 => u2_bank (by omega)) hFM.2
    refine qZ.mono (d := d + 1) (R_signAt hm (hp1 _) (by omega) (by omega) (fun v s0 r0 => ⟨_, rfl, ?_⟩)) (by omega) (fun _ _ q => q)
    rw [hs1] at s0
    have i63 := lt_iff s0 63 (by decide) (by decide)
    unfold r_bracket_43
    have e30 : (u2 B 33 0 (at' + 1)) 30 0 = gr := by rw [u2_bank (by decide)]; exact h30
    rw [e30, u2_same, u2_u2]
    refine ⟨r0, fun q3 => ⟨⟨by omega, by omega⟩, fun q9 => ?_, fun q9 => ?_⟩, fun q3 => ?_⟩
    · have FM2 : FM (u2 (u2 B 33 0 (at' + 1)) 30 0 (gr + 1)) fr := by
        refine ⟨by rw [u2_bank (by decide)]; exact (FM1 _).1, ?_⟩
        rw [u2_bank (by decide), u2_bank (by decide)]
        exact frR_fr (Int.le_refl _) (Int.le_refl _) fr (FrS.u2 FrS.refl (by unfold NdS; omega)) (fun b y p1 p2 p3 p4 => u2_bank (by omega)) (FM1 _).2
      refine op 4 (gr + 1) (at' + 1) (gr + 1) lk _ (by omega) (fun _ => ⟨by omega, by omega⟩) (fun q => absurd rfl q) FM2 (by rw [u2_bank (by decide), u2_same]) (by omega) (by omega) u2_same (by omega) (by omega) (by rw [u2_bank (by decide), u2_bank (by decide)]; exact h26) (by rw [if_neg (by decide)]; omega) (by rw [u2_bank (by decide), u2_bank (by decide)]; exact h35) (by rw [u2_bank (by decide), u2_bank (by decide)]) (by rw [u2_bank (by decide), u2_bank (by decide)]) (FrS.u2 (FrS.u2 FrS.refl (by unfold Kp; omega)) (by unfold Kp; omega)) hl10 ?_
      unfold sBr
      rw [if_neg nl, if_neg (by omega), if_neg q9]
    · refine qZ.mono (d := d + 1) (R_wrong hm (by rw [u2_bank (by decide)]; exact h35) ⟨_, rfl, ?_⟩) (by omega) (fun _ _ q => q)
      unfold r_bracket_180
      refine wr at' _ (by rw [u2_bank (by decide)]; exact h35) (FrS.u2 FrS.refl (by unfold Kp; omega)) i1 (by omega) (by rw [u2_same]; omega) (by rw [u2_same]; omega) ?_
      unfold sBr
      rw [if_neg nl, if_neg (by omega), if_pos q9]
    · have hlt2 : at' + 1 < 200 := sg_end hp (by omega) (by omega)
      rw [show at' + 1 + 1 = at' + 2 by omega]
      refine qZ.mono (d := d + 1) (R_signAt hm (hp1 _) (by omega) (by omega) (fun v2 s2' r2 => ⟨_, rfl, ?_⟩)) (by omega) (fun _ _ q => q)
      rw [hs1] at s2'
      have i58 := lt_iff s2' 58 (by decide) (by decide)
      have i61 := lt_iff s2' 61 (by decide) (by decide)
      have i33 := lt_iff s2' 33 (by decide) (by decide)
      have e26 : (u2 B 33 0 (at' + 2)) 26 0 = lk := by rw [u2_bank (by decide)]; exact h26
      have e33 : ∀ a, (u2 B 33 0 a) 33 0 = a := fun a => u2_same
      have FM3 : FM (u2 (u2 B 33 0 (at' + 2)) 26 0 (lk + 1)) fr := by
        refine ⟨by rw [u2_bank (by decide)]; exact (FM1 _).1, ?_⟩
        rw [u2_bank (by decide), u2_bank (by decide)]
        exact frR_fr (Int.le_refl _) (Int.le_refl _) fr (FrS.u2 FrS.refl (by unfold NdS; omega)) (fun b y p1 p2 p3 p4 => u2_bank (by omega)) (FM1 _).2
      have FM4 : FM (u2 (u2 (u2 B 33 0 (at' + 2)) 26 0 (lk + 1)) 33 0 (at' + 3)) fr := by
        refine ⟨by rw [u2_bank (by decide)]; exact FM3.1, ?_⟩
        rw [u2_bank (by decide), u2_bank (by decide)]
        exact frR_fr (Int.le_refl _) (Int.le_refl _) fr (FrS.u2 FrS.refl (by unfold NdS; omega)) (fun b y p1 p2 p3 p4 => u2_bank (by omega)) FM3.2
      have n99 : (v2 = 58 ∨ v2 = 61 ∨ v2 = 33) → r_bracket_99 m h0 (d + 2) at' 0 v2 (u2 B 33 0 (at' + 2)) Q := by
        intro hv
        have hlt3 : at' + 2 < 200 := sg_end hp (by omega) (by omega)
        have look : ∀ hw, (hw = 5 ∨ hw = 6) → hw = (if sgB B (at' + 2) = 61 then 5 else 6) → ¬ sgB B (at' + 2) = 58 → (sgB B (at' + 2) = 61 ∨ sgB B (at' + 2) = 33) → r_bracket_123 m h0 (d + 2) at' 0 hw (u2 B 33 0 (at' + 2)) Q := by
          intro hw hw1 hw2 n58 n61
          unfold r_bracket_123
          rw [e26]
          refine ⟨⟨by omega, by omega⟩, fun q => by omega, fun _ => ⟨⟨by omega, by omega⟩, fun ql => ?_, fun ql => ?_⟩⟩
          · unfold r_bracket_153
            have e33b : (u2 (u2 B 33 0 (at' + 2)) 26 0 (lk + 1)) 33 0 = at' + 2 := by rw [u2_bank (by decide), u2_same]
            rw [e33b, show at' + 2 + 1 = at' + 3 by omega]
            refine op hw 0 (at' + 3) gr (lk + 1) _ (by omega) (fun q => by omega) (fun _ => rfl) FM4 u2_same (by omega) (by omega) (by rw [u2_bank (by decide), u2_bank (by decide), u2_bank (by decide)]; exact h30) i5 i6 (by rw [u2_bank (by decide), u2_same]) (by rw [if_pos hw1]; omega) (by rw [u2_bank (by decide), u2_bank (by decide), u2_bank (by decide)]; exact h35) (by rw [u2_bank (by decide), u2_bank (by decide), u2_bank (by decide)]) (by rw [u2_bank (by decide), u2_bank (by decide), u2_bank (by decide)]) (FrS.u2 (FrS.u2 (FrS.u2 FrS.refl (by unfold Kp; omega)) (by unfold Kp; omega)) (by unfold Kp; omega)) hl10 ?_
            unfold sBr
            rw [if_neg nl, if_pos (by omega), if_neg n58, if_pos n61, if_neg (by omega), ← hw2]
          · refine qZ.mono (d := d + 1) (R_wrong hm (by rw [u2_bank (by decide)]; exact h35) ⟨_, rfl, ?_⟩) (by omega) (fun _ _ q => q)
            unfold r_bracket_141
            refine wr at' _ (by rw [u2_bank (by decide)]; exact h35) (FrS.u2 FrS.refl (by unfold Kp; omega)) i1 (by omega) (by rw [u2_same]; omega) (by rw [u2_same]; omega) ?_
            unfold sBr
            rw [if_neg nl, if_pos (by omega), if_neg n58, if_pos n61, if_pos ql]
        unfold r_bracket_99
        refine ⟨r2, fun q58 => ⟨fun q61 => look 6 (Or.inr rfl) (by rw [if_neg (by omega)]) (by omega) (by omega), fun q61 => look 5 (Or.inl rfl) (by rw [if_pos (by omega)]) (by omega) (by omega)⟩, fun q58 => ?_⟩
        unfold r_bracket_123
        refine ⟨⟨by decide, by decide⟩, fun _ => ?_, fun q => absurd rfl q⟩
        unfold r_bracket_153
        rw [e33, u2_u2, show at' + 2 + 1 = at' + 3 by omega]
        refine op 1 0 (at' + 3) gr lk _ (by omega) (fun q => by omega) (fun _ => rfl) (FM1 _) u2_same (by omega) (by omega) (by rw [u2_bank (by decide)]; exact h30) i5 i6 (by rw [u2_bank (by decide)]; exact h26) (by rw [if_neg (by decide)]; omega) (by rw [u2_bank (by decide)]; exact h35) (by rw [u2_bank (by decide)]) (by rw [u2_bank (by decide)]) (FrS.u2 FrS.refl (by unfold Kp; omega)) hl10 ?_
        unfold sBr
        rw [if_neg nl, if_pos (by omega), if_pos (by omega)]
      unfold r_bracket_66
      rw [e33]
      refine ⟨r2, fun q => n99 (by omega), fun q5 => ⟨fun q => n99 (by omega), fun q6 => ⟨fun q => n99 (by omega), fun q7 => ?_⟩⟩⟩
      refine qZ.mono (d := d + 1) (R_wrong hm (by rw [u2_bank (by decide)]; exact h35) ⟨_, rfl, ?_⟩) (by omega) (fun _ _ q => q)
      unfold r_bracket_97
      refine wr (at' + 2) _ (by rw [u2_bank (by decide)]; exact h35) (FrS.u2 FrS.refl (by unfold Kp; omega)) (by omega) (by omega) (by rw [u2_same]; omega) (by rw [u2_same]; omega) ?_
      unfold sBr
      rw [if_neg nl, if_pos (by omega), if_neg (by omega), if_neg (by omega)]
  · refine qZ.mono (d := d + 1) (R_wrong hm h35 ⟨_, rfl, ?_⟩) (by omega) (fun _ _ q => q)
    unfold r_bracket_19
    refine wr at' _ h35 FrS.refl i1 (by omega) (by omega) (by omega) ?_
    unfold sBr
    rw [if_pos (by omega)]
end RLOOP
