/-! THE CLASS'S WALKER: made ready -/
section PRP
variable {h1 : qH} {d : Nat} {Q : qO → qB → Prop} {c0 s0 : Int} {a t : Nat} {n te : Int} {tx : Int → Int} {e : qT} {P : qP} {H : Int → Nat → Option Bool} {Mx : Int}
theorem R_wprep {B : qB} (hd : 8 ≤ d) (hS : SH B) (hD : DI c0 s0 B) (ha : ob 5 a) (ht : ob 1 t) (hte : te = 0 ∨ te = 1) (hP : ∀ j s, 1 ≤ j → j ≤ 6 → B (a + j) s = P j s) (hH : ∀ s (c : Nat), H s c = some (hoC B (a + 7) s (c : Int))) (htx : ∀ p, byA B t p = tx p) (hn : B t 1 = n) (hnr : 0 ≤ n ∧ n ≤ 1000) (hsl : B a 8 = spc e) (hsp : 0 ≤ spc e ∧ spc e ≤ 400) (hK : KYs n P (spc e * (n + 1)).toNat)
    (w : ∀ B', WI c0 s0 a t n te P H tx (spc e * (n + 1)).toNat B' → RSn n te P H tx (spc e * (n + 1)).toNat Mx B' → (∀ b x, b < 112 → b ≠ 102 → b ≠ 105 → b ≠ 106 → B' b x = B b x) → (∀ x, x ≠ 3 → x ≠ 4 → x ≠ 5 → B' 102 x = B 102 x) → (∀ x, B' 1000000000 x = B 1000000000 x) → Q (.inl none) B') : qY h1 d n_Wa_prepare 0 [some (.ref 102), some (.ref a), some (.ref t), some (iv te)] [] B Q := by
  obtain ⟨d, rfl⟩ : ∃ d', d = d' + 1 := ⟨d - 1, by omega⟩
  have al := pr_lt ha
  have tl := ob1_lt ht
  have e1 : (((a : Nat) : Int)).toNat = a := by omega
  have e2 : (((t : Nat) : Int)).toNat = t := by omega
  refine c_Wa_prepare_0_ok (by omega) hS (by assumption) (by assumption) ?_
  unfold c_Wa_prepare_0
  obtain ⟨D1, -, -⟩ := DI_u2 (b := 102) (x := 3) (z := ((a : Nat) : Int)) hD (by decide) (by decide) (fun q => absurd q (by decide)) (fun q => absurd q (by decide))
  obtain ⟨D2, -, -⟩ := DI_u2 (b := 102) (x := 4) (z := ((t : Nat) : Int)) D1 (by decide) (by decide) (fun q => absurd q (by decide)) (fun q => absurd q (by decide))
  obtain ⟨D3, -, -⟩ := DI_u2 (b := 102) (x := 5) (z := te) D2 (by decide) (by decide) (fun q => absurd q (by decide)) (fun q => absurd q (by decide))
  have S3 : SH (u2 (u2 (u2 B 102 3 ((a : Nat) : Int)) 102 4 ((t : Nat) : Int)) 102 5 te) := SH_u2 (SH_u2 (SH_u2 hS (by decide)) (by decide)) (by decide)
  have o : ∀ b x, b ≠ 102 → (u2 (u2 (u2 B 102 3 ((a : Nat) : Int)) 102 4 ((t : Nat) : Int)) 102 5 te) b x = B b x := fun b x hb => by rw [u2_bank hb, u2_bank hb, u2_bank hb]
  have o3 : (u2 (u2 (u2 B 102 3 ((a : Nat) : Int)) 102 4 ((t : Nat) : Int)) 102 5 te) 102 3 = (a : Int) := by rw [u2_idx (by decide), u2_idx (by decide), u2_same]
  have o4 : (u2 (u2 (u2 B 102 3 ((a : Nat) : Int)) 102 4 ((t : Nat) : Int)) 102 5 te) 102 4 = (t : Int) := by rw [u2_idx (by decide), u2_same]
  have o5 : (u2 (u2 (u2 B 102 3 ((a : Nat) : Int)) 102 4 ((t : Nat) : Int)) 102 5 te) 102 5 = te := u2_same
  have o9 : ∀ x, x ≠ 3 → x ≠ 4 → x ≠ 5 → (u2 (u2 (u2 B 102 3 ((a : Nat) : Int)) 102 4 ((t : Nat) : Int)) 102 5 te) 102 x = B 102 x := fun x x3 x4 x5 => by rw [u2_idx x5, u2_idx x4, u2_idx x3]
  revert D3 S3 o o3 o4 o5 o9
  generalize u2 (u2 (u2 B 102 3 ((a : Nat) : Int)) 102 4 ((t : Nat) : Int)) 102 5 te = C
  intro D3 S3 o o3 o4 o5 o9
  rw [e1, e2, o a 8 (by omega), o t 1 (by omega), hsl, hn]
  have hm := Int.mul_nonneg hsp.1 (show 0 ≤ n + 1 by omega)
  have hm2 : spc e * (n + 1) ≤ 400 * 1001 := Int.mul_le_mul hsp.2 (by omega) (by omega) (by decide)
  refine ⟨hte, ha, ht, R_fclear (c0 := c0) (s0 := s0) (by omega) S3 D3 ⟨hm, by omega⟩ (fun B' hB' => ⟨rfl, hB'.1, ?_⟩)⟩
  unfold c_Wa_prepare_39
  obtain ⟨g1, g2, g3, g4, g5, g6⟩ := hB'
  have f : ∀ b x, b < 112 → b ≠ 102 → b ≠ 105 → b ≠ 106 → B' b x = B b x := fun b x b1 b2 b3 b4 => by rw [g5 b x b1 b3 b4, o b x b2]
  have f2 : ∀ x, B' 102 x = C 102 x := fun x => g5 _ _ (by decide) (by decide) (by decide)
  have fa : ∀ j x, j ≤ 8 → B' (a + j) x = B (a + j) x := fun j x hj => f _ _ (by omega) (by omega) (by omega) (by omega)
  have ft0 : B' t 1 = B t 1 := f _ _ (by omega) (by omega) (by omega) (by omega)
  have ft1 : ∀ x, B' (t + 1) x = B (t + 1) x := fun x => f _ _ (by omega) (by omega) (by omega) (by omega)
  refine w B' ⟨g1, g2, ⟨by rw [f2]; exact o3, ha, by rw [f2]; exact o4, ht, by rw [ft0]; exact hn, hnr, by rw [f2]; exact o5, hte⟩, fun j s j0 j1 => by rw [fa j s (by omega)]; exact hP j s j0 j1, fun s c => ?_, fun p => ?_, by omega⟩ ⟨fun κ k0 k1 => by rw [g3 κ k0 (by omega)]; decide, fun s p u q1 q2 q3 q4 q5 => ?_⟩ f (fun x x3 x4 x5 => by rw [f2]; exact o9 x x3 x4 x5) (fun x => by rw [g6, o _ _ (by decide)])
  · rw [hH s c]
    congr 1
    unfold hoC
    have e9 : ∀ y, B' (a + 7 + 1) y = B (a + 7 + 1) y := fun y => fa 8 y (by decide)
    rw [e9]
  · rw [← htx p]
    unfold byA
    rw [ft0, ft1]
  · have hk := ky_rg hK q2 q1 q3
    rw [g3 _ hk.1 (by omega)] at q5
    omega
end PRP
