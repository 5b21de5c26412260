/-! THE REFERENCE'S SEARCH: numbers of notes -/
theorem GI_54 {B : qB} (h : GI B) : ∀ (N : Nat) (s : Int), 0 ≤ s → s + N ≤ B 48 0 → B 54 s + N ≤ B 54 (s + N) := by
  intro N
  induction N with
  | zero => intro s _ _; simp
  | succ N ih =>
    intro s s0 s1
    have h1 := ih s s0 (by omega)
    have h2 := h.2.2.1 (s + N) (by omega) (by omega)
    rw [show s + ((N + 1 : Nat) : Int) = s + N + 1 by omega]
    omega
theorem GI_le {B : qB} (h : GI B) {s t : Int} (s0 : 0 ≤ s) (st : s ≤ t) (t1 : t ≤ B 48 0) : B 54 s + (t - s) ≤ B 54 t := by
  have := GI_54 h (t - s).toNat s s0 (by omega)
  rw [show s + ((t - s).toNat : Int) = t by omega] at this
  omega
theorem zz_at {B : qB} {pc : Int} (h : pc < B 46 0) : zz B pc = B 45 pc := if_pos h
theorem zz_mono0 {B : qB} (h : GI B) : ∀ (N : Nat) (pc : Int), 0 ≤ pc → pc + N ≤ B 46 0 → zz B pc ≤ zz B (pc + N) := by
  intro N
  induction N with
  | zero => intro s _ _; simp
  | succ N ih =>
    intro pc p0 p1
    have h1 := ih pc p0 (by omega)
    have h2 := h.2.2.2.2 (pc + N) (by omega) (by omega)
    rw [zz_at (pc := pc + N) (by omega)] at h1
    rw [show pc + ((N + 1 : Nat) : Int) = pc + N + 1 by omega, h2]
    split <;> omega
theorem zz_mono {B : qB} (h : GI B) {pc pc' : Int} (p0 : 0 ≤ pc) (pp : pc ≤ pc') (p1 : pc' ≤ B 46 0) : zz B pc ≤ zz B pc' := by
  have := zz_mono0 h (pc' - pc).toNat pc p0 (by omega)
  rw [show pc + ((pc' - pc).toNat : Int) = pc' by omega] at this
  exact this
theorem zz_sp {B : qB} (h : GI B) {pc pc' : Int} (p0 : 0 ≤ pc) (pp : pc < pc') (p1 : pc' ≤ B 46 0) (hs : B 42 pc = 1 ∨ B 42 pc = 6) : B 45 pc + 1 ≤ zz B pc' := by
  have h2 := h.2.2.2.2 pc p0 (by omega)
  rw [if_pos hs] at h2
  have := zz_mono h (pc := pc + 1) (by omega) (show pc + 1 ≤ pc' by omega) p1
  omega
theorem zz_top {B : qB} : zz B (B 46 0) = B 48 0 := if_neg (by omega)
theorem zz_in {B : qB} (h : GI B) {pc : Int} (p0 : 0 ≤ pc) (p1 : pc < B 46 0) (hs : B 42 pc = 1 ∨ B 42 pc = 6) : 0 ≤ B 45 pc ∧ B 45 pc + 1 ≤ B 48 0 := by
  have h1 := zz_mono h (Int.le_refl 0) p0 (show pc ≤ B 46 0 by omega)
  rw [h.2.2.2.1, zz_at p1] at h1
  have h2 := zz_sp h p0 p1 (Int.le_refl _) hs
  rw [zz_top] at h2
  exact ⟨h1, h2⟩
theorem key_in {B : qB} (h : GI B) (n0 : 0 ≤ B 57 0) {pc p u s t : Int} (z0 : 0 ≤ B 45 pc) (kr : Kr B pc p u) (s0 : 0 ≤ s) (s1 : s ≤ B 45 pc) (t0 : B 45 pc + 1 ≤ t) (t1 : t ≤ B 48 0) : B 54 s * (B 57 0 + 1) ≤ kN B pc u p ∧ kN B pc u p < B 54 t * (B 57 0 + 1) := by
  obtain ⟨k1, k2, k3, k4⟩ := kr
  have g1 := GI_le h s0 s1 (by omega)
  have g2 := GI_le h (show 0 ≤ B 45 pc + 1 by omega) t0 t1
  unfold dpt at k4
  unfold kN
  have m1 : B 54 s * (B 57 0 + 1) ≤ (B 54 (B 45 pc) + u) * (B 57 0 + 1) := Int.mul_le_mul_of_nonneg_right (by omega) (by omega)
  have m2 : (B 54 (B 45 pc) + u + 1) * (B 57 0 + 1) ≤ B 54 t * (B 57 0 + 1) := Int.mul_le_mul_of_nonneg_right (by omega) (by omega)
  have m3 : (B 54 (B 45 pc) + u + 1) * (B 57 0 + 1) = (B 54 (B 45 pc) + u) * (B 57 0 + 1) + (B 57 0 + 1) := by rw [Int.add_mul, Int.one_mul]
  omega
theorem key_inj {B : qB} (h : GI B) (n0 : 0 ≤ B 57 0) {pc p u pc' p' u' : Int} (p0 : 0 ≤ pc) (p1 : pc < B 46 0) (hs : B 42 pc = 1 ∨ B 42 pc = 6) (p0' : 0 ≤ pc') (p1' : pc' < B 46 0) (hs' : B 42 pc' = 1 ∨ B 42 pc' = 6) (kr : Kr B pc p u) (kr' : Kr B pc' p' u') (e : kN B pc u p = kN B pc' u' p') : pc = pc' ∧ p = p' ∧ u = u' := by
  obtain ⟨z0, z1⟩ := zz_in h p0 p1 hs
  obtain ⟨z0', z1'⟩ := zz_in h p0' p1' hs'
  have ez : B 45 pc = B 45 pc' := by
    by_cases hlt : B 45 pc < B 45 pc'
    · have a1 := key_in h n0 z0 kr (Int.le_refl 0) z0 (show B 45 pc + 1 ≤ B 45 pc' by omega) (by omega)
      have a2 := key_in h n0 z0' kr' z0' (Int.le_refl _) (Int.le_refl _) (by omega)
      omega
    · by_cases hgt : B 45 pc' < B 45 pc
      · have a1 := key_in h n0 z0' kr' (Int.le_refl 0) z0' (show B 45 pc' + 1 ≤ B 45 pc by omega) (by omega)
        have a2 := key_in h n0 z0 kr z0 (Int.le_refl _) (Int.le_refl _) (by omega)
        omega
      · omega
  have ep : pc = pc' := by
    by_cases hlt : pc < pc'
    · have := zz_sp h p0 hlt (by omega) hs
      rw [zz_at p1'] at this
      omega
    · by_cases hgt : pc' < pc
      · have := zz_sp h p0' hgt (by omega) hs'
        rw [zz_at p1] at this
        omega
      · omega
  subst ep
  obtain ⟨k1, k2, k3, k4⟩ := kr
  obtain ⟨l1, l2, l3, l4⟩ := kr'
  unfold kN at e
  have eu : u = u' := by
    by_cases hlt : u < u'
    · have m2 : (B 54 (B 45 pc) + u + 1) * (B 57 0 + 1) ≤ (B 54 (B 45 pc) + u') * (B 57 0 + 1) := Int.mul_le_mul_of_nonneg_right (by omega) (by omega)
      have m3 : (B 54 (B 45 pc) + u + 1) * (B 57 0 + 1) = (B 54 (B 45 pc) + u) * (B 57 0 + 1) + (B 57 0 + 1) := by rw [Int.add_mul, Int.one_mul]
      omega
    · by_cases hgt : u' < u
      · have m2 : (B 54 (B 45 pc) + u' + 1) * (B 57 0 + 1) ≤ (B 54 (B 45 pc) + u) * (B 57 0 + 1) := Int.mul_le_mul_of_nonneg_right (by omega) (by omega)
        have m3 : (B 54 (B 45 pc) + u' + 1) * (B 57 0 + 1) = (B 54 (B 45 pc) + u') * (B 57 0 + 1) + (B 57 0 + 1) := by rw [Int.add_mul, Int.one_mul]
        omega
      · omega
  subst eu
  exact ⟨rfl, by omega, rfl⟩
/-- notes of the splits from lo to hi -/
theorem HR_ok {B0 : qB} {G : qG} (h : GI B0) (hT : TXT B0) (hK : B0 56 0 ≤ 4500) {lo hi : Int} (lo0 : 0 ≤ lo) (hi1 : hi ≤ B0 46 0) (hdom : ∀ pc L, G pc = some L → lo ≤ pc ∧ pc < hi ∧ (B0 42 pc = 1 ∨ B0 42 pc = 6)) : ∀ pc L p u, G pc = some L → Kr B0 pc p u → B0 54 (zz B0 lo) * (B0 57 0 + 1) ≤ kN B0 pc u p ∧ kN B0 pc u p < B0 54 (zz B0 hi) * (B0 57 0 + 1) ∧ 0 ≤ kN B0 pc u p ∧ kN B0 pc u p < 5120000 := by
  intro pc L p u hG kr
  obtain ⟨d1, d2, d3⟩ := hdom pc L hG
  obtain ⟨t1, t2, t3, t4, t5⟩ := hT
  obtain ⟨z0, z1⟩ := zz_in h (show 0 ≤ pc by omega) (by omega) d3
  have a1 := zz_mono h lo0 d1 (by omega)
  rw [zz_at (show pc < B0 46 0 by omega)] at a1
  have a0 := zz_mono h (Int.le_refl 0) lo0 (by omega)
  rw [h.2.2.2.1] at a0
  have a2 := zz_sp h (show 0 ≤ pc by omega) d2 hi1 d3
  have a3 := zz_mono h (show 0 ≤ hi by omega) hi1 (Int.le_refl _)
  rw [zz_top] at a3
  have b1 := key_in h t1 z0 kr a0 a1 a2 a3
  have b2 := key_in h t1 z0 kr (Int.le_refl 0) z0 z1 (Int.le_refl _)
  rw [h.2.1, h.1, Int.zero_mul] at b2
  have m1 : B0 56 0 * (B0 57 0 + 1) ≤ 4500 * (B0 57 0 + 1) := Int.mul_le_mul_of_nonneg_right hK (by omega)
  exact ⟨b1.1, b1.2, b2.1, by omega⟩
theorem HJ_ok {B0 : qB} {G : qG} (h : GI B0) (hT : TXT B0) (hdom : ∀ pc L, G pc = some L → 0 ≤ pc ∧ pc < B0 46 0 ∧ (B0 42 pc = 1 ∨ B0 42 pc = 6)) : ∀ pc L p u pc' L' p' u', G pc = some L → G pc' = some L' → Kr B0 pc p u → Kr B0 pc' p' u' → kN B0 pc u p = kN B0 pc' u' p' → pc = pc' ∧ p = p' ∧ u = u' := by
  intro pc L p u pc' L' p' u' hG hG' kr kr' e
  obtain ⟨d1, d2, d3⟩ := hdom pc L hG
  obtain ⟨d1', d2', d3'⟩ := hdom pc' L' hG'
  exact key_inj h hT.1 d1 d2 d3 d1' d2' d3' kr kr' e
/-! the question's own search -/
section SUBR
variable {B0 Bst : qB} {G : qG} {gm : Int → Prop} {k0 k1 j0 j1 : Int} {w7 : Prop} {bot lim W : Int} {I O F A : qB → Prop} {m : Nat} {h0 : qH} {d : Nat}
theorem S_done (H : HG m h0 d B0 G k0 k1 j0 j1 w7 bot lim W I O F A) {p u a β : Int} {ctx : List Int} (a0 : 0 ≤ a) (a1 : a < 6000) (h42 : B0 42 a = 11) : RnP B0 Bst G gm k0 k1 j0 j1 w7 bot lim W I O F p u a ctx (fun p _ c => [(p, c)]) β := by
  intro B c h hSt h68 h69 hC hc h66 hb hlim hI hO hF
  have e42 : B 42 a = B0 42 a := St_e hSt 42 a (by omega)
  exact H.1.1 B (R_one11 (d := d + 3) H.2.2.2.2.2.2.2.1 (by rw [h68]; exact a0) (by rw [h68]; exact a1) (by rw [h68, e42]; exact h42) ⟨2, rfl, Or.inr (Or.inr (Or.inl ⟨rfl, hF (p, c) [] rfl B hSt h69 hc⟩))⟩)
end SUBR
def BodyOK (m : Nat) (h0 : qH) (d : Nat) (B0 : qB) (a y J q pw : Int) (Db : Int → qCp → qWs) : Prop := ∃ (G : qG) (gm : Int → Prop), (∀ pc L, G pc = some L → a + 1 ≤ pc ∧ pc < y - 1 ∧ (B0 42 pc = 1 ∨ B0 42 pc = 6)) ∧ ∀ (Bst : qB) (k0 k1 bot lim W : Int) (I O F : qB → Prop) (p β1 : Int), HG m h0 d B0 G k0 k1 J (J + q) True bot lim W I O F (fun _ => False) → lim ≤ 2499000 → 0 ≤ p → p ≤ B0 57 0 → pw ≤ β1 → β1 + pw ≤ W → (∀ p', p ≤ p' → p' ≤ B0 57 0 → RnP B0 Bst G gm k0 k1 J (J + q) True bot lim W I O F p' 0 (y - 1) [] (fun p _ c => [(p, c)]) β1) → RnP B0 Bst G gm k0 k1 J (J + q) True bot lim W I O F p 0 (a + 1) [] (LF Db (fun p _ c => [(p, c)])) (β1 + pw)
theorem R_subrun {m : Nat} {h0 : qH} {d : Nat} {B0 : qB} {a y J q pw : Int} {Db : Int → qCp → qWs} {Q : qO → qB → Prop} (hm : m + 100 < 1000000000) (hT : TXT B0) (hGI : GI B0) (hcd : B0 46 0 ≤ 5991) (hK : B0 56 0 ≤ 4500) (a0 : 0 ≤ a) (ay : a + 1 < y) (y1 : y < B0 46 0) (hD : B0 42 (y - 1) = 11) (J0 : 0 ≤ J) (J1 : J + q ≤ 800) (pw0 : 0 ≤ pw) (hBody : BodyOK m h0 d B0 a y J q pw Db) {B : qB} {p h : Int} {c : qCp} (fB : FrS SB B0 B) (hM : MR B) (hC : CR B) (h66 : B 66 0 = h) (hh : 0 ≤ h) (hroom : h + 2002 * pw ≤ 2499000) (p0 : 0 ≤ p) (p1 : p ≤ B0 57 0) (hc : ∀ i, 0 ≤ i → i < 20 → B 49 i = c i) (hclr : ∀ κ, B0 54 (zz B0 (a + 1)) * (B0 57 0 + 1) ≤ κ → κ < B0 54 (zz B0 (y - 1)) * (B0 57 0 + 1) → fbit B κ = false)
    (kS : ∀ o r, Db p c = o :: r → ∀ B', St B0 B (B0 54 (zz B0 (a + 1)) * (B0 57 0 + 1)) (B0 54 (zz B0 (y - 1)) * (B0 57 0 + 1)) J (J + q) True h B' → B' 69 0 = o.1 → (∀ i, 0 ≤ i → i < 20 → B' 49 i = o.2 i) → Q (.inl (some (iv o.1))) (u2 B' 66 0 h))
    (kF : Db p c = [] → ∀ B', St B0 B (B0 54 (zz B0 (a + 1)) * (B0 57 0 + 1)) (B0 54 (zz B0 (y - 1)) * (B0 57 0 + 1)) J (J + q) True h B' → B' 66 0 = h → (∀ i, 0 ≤ i → i < 20 → B' 49 i = B 49 i) → Q (.inl (some (iv (-1)))) B') : qZ m h0 (d + 7) k_sub 0 [some (.ref m), some (iv (a + 1)), some (iv p), none, none, none] [] B Q := by
  obtain ⟨t1, t2, t3, t4, t5⟩ := hT
  obtain ⟨G, gm, hdom, hrun⟩ := hBody
  have hdom' : ∀ pc L, G pc = some L → 0 ≤ pc ∧ pc < B0 46 0 ∧ (B0 42 pc = 1 ∨ B0 42 pc = 6) := fun pc L hG => by
    have := hdom pc L hG
    exact ⟨by omega, by omega, this.2.2⟩
  have HRo := HR_ok (G := G) hGI ⟨t1, t2, t3, t4, t5⟩ hK (lo := a + 1) (hi := y - 1) (by omega) (by omega) hdom
  have H : HG m h0 d B0 G (B0 54 (zz B0 (a + 1)) * (B0 57 0 + 1)) (B0 54 (zz B0 (y - 1)) * (B0 57 0 + 1)) J (J + q) True h 2499000 (2 * pw) (Isub m h0 (d + 6) h Q) (Osub m h0 (d + 6) h Q) (Fsub h Q) (fun _ => False) := ⟨LP_sub hm (by omega) hh (by omega), ⟨t1, t2, t3, t4, t5⟩, hh, by omega, by omega, J0, J1, hm, HRo, HJ_ok hGI ⟨t1, t2, t3, t4, t5⟩ hdom', hdom'⟩
  refine r_sub_0_ok hm ?_
  unfold r_sub_0
  refine qZ.mono (d := d + 1) (R_push hm (by omega) (by omega) ⟨rfl, ?_⟩) (by omega) (fun _ _ q => q)
  rw [h66, show 8192 * p + (a + 1) = 8192 * p + (a + 1) from rfl]
  have b66 : psB B (8192 * p + (a + 1)) 66 0 = h + 1 := by rw [psB_66, h66]
  have b65 : psB B (8192 * p + (a + 1)) 65 h = 8192 * p + (a + 1) := by rw [← h66]; exact psB_top
  have b65l : ∀ z, z < h → psB B (8192 * p + (a + 1)) 65 z = B 65 z := fun z hz => psB_low (by omega)
  have bo : ∀ b z, b ≠ 65 → b ≠ 66 → psB B (8192 * p + (a + 1)) b z = B b z := fun b z q1 q2 => psB_oth q1 q2
  generalize psB B (8192 * p + (a + 1)) = P at *
  refine H.1.2.1 P h p (a + 1) b66 (Int.le_refl _) (by omega) b65 (by omega) (by omega) p0 (by omega) ?_
  have ho : ∀ b z, b ≠ 65 → b ≠ 66 → b ≠ 68 → b ≠ 69 → u2 (u2 (u2 P 66 0 h) 68 0 (a + 1)) 69 0 p b z = B b z := fun b z q1 q2 q3 q4 => by rw [u2_bank q4, u2_bank q3, u2_bank q2]; exact bo b z q1 q2
  have sSt : St B0 B (B0 54 (zz B0 (a + 1)) * (B0 57 0 + 1)) (B0 54 (zz B0 (y - 1)) * (B0 57 0 + 1)) J (J + q) True h (u2 (u2 (u2 P 66 0 h) 68 0 (a + 1)) 69 0 p) := by
    refine ⟨fun b z hs => by rw [ho b z (by unfold SB at hs; omega) (by unfold SB at hs; omega) (by unfold SB at hs; omega) (by unfold SB at hs; omega)]; exact fB b z hs, fun q q0 q1 => by rw [ho 51 q (by decide) (by decide) (by decide) (by decide)]; exact hM q q0 q1, fun q q0 q1 => by rw [ho 49 q (by decide) (by decide) (by decide) (by decide)]; exact hC q q0 q1, fun z hz => by rw [u2_bank (by decide), u2_bank (by decide), u2_bank (by decide)]; exact b65l z hz, fun κ _ => fbit_eq (fun z => ho 67 z (by decide) (by decide) (by decide) (by decide)), fun q _ => ho 51 q (by decide) (by decide) (by decide) (by decide), fun _ z => ho 70 z (by decide) (by decide) (by decide) (by decide)⟩
  have hLF : LF Db (fun p _ c => [(p, c)]) p 0 c = Db p c := by
    unfold LF
    show (Db p c).flatMap (fun o => [(o.1, o.2)]) = Db p c
    induction Db p c with
    | nil => rfl
    | cons x r ih => rw [List.flatMap_cons, ih]; rfl
  have hmul : (B0 57 0 - p) * (2 * pw) ≤ 1000 * (2 * pw) := Int.mul_le_mul_of_nonneg_right (by omega) (by omega)
  refine hrun B _ _ h 2499000 (2 * pw) _ _ _ p pw H (Int.le_refl _) p0 p1 (Int.le_refl _) (by omega) (fun p' _ _ => S_done H (by omega) (by omega) hD) (u2 (u2 (u2 P 66 0 h) 68 0 (a + 1)) 69 0 p) c h sSt (by rw [u2_bank (by decide), u2_same]) u2_same ⟨[], [], rfl, fun q hq => by simp at hq, fun q hq => by simp at hq, rfl⟩ (fun i i0 i1 => by rw [ho 49 i (by decide) (by decide) (by decide) (by decide)]; exact hc i i0 i1) (by rw [u2_bank (by decide), u2_bank (by decide), u2_same]) (Int.le_refl _) (by omega) ?_ ?_ ?_
  · intro pc L p' u' hG kr hf _
    have hr := HRo pc L p' u' hG kr
    rw [fbit_eq (B := B) (fun z => ho 67 z (by decide) (by decide) (by decide) (by decide)), hclr _ hr.1 hr.2.1] at hf
    exact absurd hf (by decide)
  · intro e B' hP
    rw [hLF] at e
    obtain ⟨g1, g2, g3, g4, g5, g6⟩ := hP
    refine r_sub_16_ok hm ?_
    unfold r_sub_16
    rw [g2]
    refine ⟨⟨by omega, by omega⟩, ⟨by omega, by omega⟩, fun _ => kF e B' g1 g2 (fun i i0 i1 => ?_), fun q => by omega⟩
    rw [g4 i i0 i1]
    exact ho 49 i (by decide) (by decide) (by decide) (by decide)
  · intro o r e
    rw [hLF] at e
    intro B' hS' e69 e49
    unfold Fsub
    rw [e69]
    exact kS o r e B' hS' e69 e49
