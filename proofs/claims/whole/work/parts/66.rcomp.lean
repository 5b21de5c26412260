/-! THE REFERENCE'S COMPILER: from its beginning to its end -/
theorem R_compile {m : Nat} {h0 : qH} {d : Nat} {B : qB} {Q : qO → qB → Prop} (hm : m + 100 < 1000000000) {e : qT} (hn : nd B (B 28 0) (B 29 0) e (B 34 0)) (hw : wf e) (hW : wR e ≤ 400) (hsd : sd e ≤ 10) (hth : th e ≤ 5800) (hN : B 28 0 ≤ 3000) (hM : B 29 0 ≤ 256) (h46 : B 46 0 = 0) (h47 : B 47 0 = 0) (h48 : B 48 0 = 0) (h56 : B 56 0 = 0) (h54 : B 54 0 = 0) (h55 : B 55 0 = -1)
    (k : ∀ B', CX B' [] (cl e) 0 → B' 48 0 = cs e → B' 47 0 = cm e → FrS (CF 0 0 0 0) B B' → Seg B' (B' 48 0) (B' 47 0) e 0 [] 0 → Q (.inl none) B') : qZ m h0 (d + 3) k_compile 0 [some (.ref m), none, none, none, none, none, none] [] B Q := by
  obtain ⟨c1, c2, c3⟩ := cl_w e hw hW
  have hR := wR_bd e hw
  have gi : GI B := by
    refine ⟨by rw [h48, h54, h56], h54, fun s s0 s1 => by omega, ?_, fun pc p0 p1 => by omega⟩
    unfold zz
    rw [if_neg (by omega), h48]
  have hX : CX (u2 B 64 0 0) [] 0 0 := by
    refine ⟨by rw [u2_bank (by decide)]; exact h46, u2_same, by rw [u2_bank (by decide)]; exact h55, trivial, fun q hq => by simp at hq, Int.le_refl _, Int.le_refl _, by rw [u2_bank (by decide)]; omega, by rw [u2_bank (by decide)]; omega, GI_eq gi (fun b y q => u2_bank (by omega))⟩
  refine r_compile_0_ok hm ?_
  unfold r_compile_0
  refine qZ.mono (d := d + 1) (R_later hm (by rw [u2_same]; decide) (by rw [u2_same]; decide) ⟨rfl, ?_⟩) (by omega) (fun _ _ q => q)
  obtain ⟨z1, z2, z3, z4, -, -⟩ := X_lt (w := 0) (x := B 34 0) (y := 0) (z := 0) hX
  have fT : FrS (TS 0) B (ltB (u2 B 64 0 0) 0 (B 34 0) 0 0) := FrS.tr (FrS.u2 FrS.refl (by unfold TS; omega)) z2
  generalize ltB (u2 B 64 0 0) 0 (B 34 0) 0 0 = B2 at *
  have f2 : FrS (CF 0 0 0 0) B B2 := TS_to fT
  have e48 : B2 48 0 = 0 := (fT 48 0 (by unfold TS; omega)).trans h48
  have e47 : B2 47 0 = 0 := (fT 47 0 (by unfold TS; omega)).trans h47
  refine TT_all e m h0 d Q (B 34 0) 0 0 [] B2 hm (nd_CF f2 hn) hw (by rw [CF41 f2 (by decide)]; exact hN) (by rw [CF41 f2 (by decide)]; exact hM) z1 (Int.le_refl _) z3 z4 (by omega) (by omega) (by omega) (by omega) (by simp only [List.length_nil]; omega) (fun B3 q1 q2 q3 q4 q5 => ?_)
  rw [Int.zero_add] at q1
  refine r_compile_16_ok hm ?_
  unfold r_compile_16
  rw [q1.2.1]
  refine ⟨⟨by decide, by decide⟩, fun _ => k B3 q1 (by omega) (by omega) ?_ (Seg_J q5 e47), fun q => absurd q (by decide)⟩
  rw [e48, e47] at q4
  exact CF_tr f2 q4 (Int.le_refl _) (Int.le_refl _) (Int.le_refl _) (Int.le_refl _)
