/-! THE REFERENCE'S SEARCH: there are such ways for every split -/
section LEs
variable (sp : Int → Prop)
/-- a demand on the splits from a to b and the rounds from J to J', and it can be met -/
def LE (X : qG → (Int → Prop) → Prop) (a b J J' : Int) : Prop := (∀ (G G' : qG) (gm gm' : Int → Prop), (∀ pc, a ≤ pc → pc < b → G' pc = G pc) → (∀ q, J ≤ q → q < J' → (gm' q ↔ gm q)) → X G gm → X G' gm') ∧ ∃ (G : qG) (gm : Int → Prop), X G gm ∧ (∀ pc L, G pc = some L → a ≤ pc ∧ pc < b ∧ sp pc) ∧ (∀ q, gm q → J ≤ q ∧ q < J')
variable {sp}
theorem LE_true {a b J J' : Int} : LE sp (fun _ _ => True) a b J J' := ⟨fun _ _ _ _ _ _ _ => trivial, fun _ => none, fun _ => False, trivial, fun _ _ h => by simp at h, fun _ h => h.elim⟩
theorem LE_iff {X Y : qG → (Int → Prop) → Prop} {a b J J' : Int} (h : LE sp X a b J J') (e : ∀ G gm, Y G gm ↔ X G gm) : LE sp Y a b J J' := by
  obtain ⟨h1, G, gm, h2, h3, h4⟩ := h
  exact ⟨fun G G' gm gm' g1 g2 x => (e _ _).mpr (h1 G G' gm gm' g1 g2 ((e _ _).mp x)), G, gm, (e _ _).mpr h2, h3, h4⟩
theorem LE_wide {X : qG → (Int → Prop) → Prop} {a b J J' a' b' K K' : Int} (h : LE sp X a b J J') (e1 : a' ≤ a) (e2 : b ≤ b') (e3 : K ≤ J) (e4 : J' ≤ K') : LE sp X a' b' K K' := by
  obtain ⟨h1, G, gm, h2, h3, h4⟩ := h
  exact ⟨fun G G' gm gm' g1 g2 x => h1 G G' gm gm' (fun pc p1 p2 => g1 pc (by omega) (by omega)) (fun q q1 q2 => g2 q (by omega) (by omega)) x, G, gm, h2, fun pc L q => by have := h3 pc L q; exact ⟨by omega, by omega, this.2.2⟩, fun q r => by have := h4 q r; omega⟩
theorem LE_and {X Y : qG → (Int → Prop) → Prop} {a b c J J' J2 : Int} (h : LE sp X a b J J') (g : LE sp Y b c J' J2) (e1 : a ≤ b) (e2 : b ≤ c) (e3 : J ≤ J') (e4 : J' ≤ J2) : LE sp (fun G gm => X G gm ∧ Y G gm) a c J J2 := by
  obtain ⟨h1, G1, m1, h2, h3, h4⟩ := h
  obtain ⟨g1, G2, m2, g2, g3, g4⟩ := g
  refine ⟨fun G G' gm gm' q1 q2 x => ⟨h1 G G' gm gm' (fun pc p1 p2 => q1 pc p1 (by omega)) (fun q r1 r2 => q2 q r1 (by omega)) x.1, g1 G G' gm gm' (fun pc p1 p2 => q1 pc (by omega) p2) (fun q r1 r2 => q2 q (by omega) r2) x.2⟩, fun pc => if pc < b then G1 pc else G2 pc, fun q => m1 q ∨ m2 q, ⟨?_, ?_⟩, fun pc L q => ?_, fun q r => ?_⟩
  · refine h1 G1 _ m1 _ (fun pc p1 p2 => if_pos p2) (fun q r1 r2 => ⟨fun w => ?_, fun w => Or.inl w⟩) h2
    rcases w with w | w
    · exact w
    · have := g4 q w; omega
  · refine g1 G2 _ m2 _ (fun pc p1 p2 => if_neg (by omega)) (fun q r1 r2 => ⟨fun w => ?_, fun w => Or.inr w⟩) g2
    rcases w with w | w
    · have := h4 q w; omega
    · exact w
  · by_cases hp : pc < b
    · simp only [if_pos hp] at q
      have := h3 pc L q
      exact ⟨by omega, by omega, this.2.2⟩
    · simp only [if_neg hp] at q
      have := g3 pc L q
      exact ⟨by omega, by omega, this.2.2⟩
  · rcases r with r | r
    · have := h4 q r; omega
    · have := g4 q r; omega
theorem LE_pt {a J : Int} {L : qK} (h : sp a) : LE sp (fun G _ => G a = some L) a (a + 1) J J := by
  refine ⟨fun G G' gm gm' q1 q2 x => (q1 a (Int.le_refl _) (by omega)).trans x, fun pc => if pc = a then some L else none, fun _ => False, if_pos rfl, fun pc L' q => ?_, fun _ h => h.elim⟩
  by_cases e : pc = a
  · subst e; exact ⟨Int.le_refl _, by omega, h⟩
  · simp only [if_neg e] at q
    exact absurd q (by simp)
theorem LE_mk {b J : Int} : LE sp (fun _ gm => gm J) b b J (J + 1) := ⟨fun G G' gm gm' q1 q2 x => (q2 J (Int.le_refl _) (by omega)).mpr x, fun _ => none, fun q => q = J, rfl, fun _ _ h => by simp at h, fun q r => by omega⟩
theorem LE_none {a b J J' : Int} : LE sp (fun G gm => (∀ pc, a < pc → pc < b → G pc = none) ∧ (∀ q, J ≤ q → q < J' → ¬ gm q)) (a + 1) b J J' := ⟨fun G G' gm gm' q1 q2 x => ⟨fun pc p1 p2 => by rw [q1 pc (by omega) p2]; exact x.1 pc p1 p2, fun q r1 r2 w => x.2 q r1 r2 ((q2 q r1 r2).mp w)⟩, fun _ => none, fun _ => False, ⟨fun _ _ _ => rfl, fun _ _ _ h => h⟩, fun _ _ h => by simp at h, fun _ h => h.elim⟩
/-- many of them, one behind the other -/
theorem LE_all {X : Int → qG → (Int → Prop) → Prop} {a c J q : Int} (hc : 0 ≤ c) (hq : 0 ≤ q) : ∀ l : Nat, (∀ i : Int, 0 ≤ i → i < l → LE sp (X i) (a + i * c) (a + i * c + c) (J + i * q) (J + i * q + q)) → LE sp (fun G gm => ∀ i : Int, 0 ≤ i → i < l → X i G gm) a (a + l * c) J (J + l * q) := by
  intro l
  induction l with
  | zero =>
    intro _
    exact LE_iff LE_true (fun G gm => ⟨fun _ => trivial, fun _ i i0 i1 => by omega⟩)
  | succ l ih =>
    intro h
    have h1 := ih (fun i i0 i1 => h i i0 (by omega))
    have h2 := h l (by omega) (by omega)
    have e1 : ((l + 1 : Nat) : Int) * c = l * c + c := by rw [Int.natCast_add, Int.add_mul]; simp
    have e2 : ((l + 1 : Nat) : Int) * q = l * q + q := by rw [Int.natCast_add, Int.add_mul]; simp
    have n1 : 0 ≤ (l : Int) * c := Int.mul_nonneg (by omega) hc
    have n2 : 0 ≤ (l : Int) * q := Int.mul_nonneg (by omega) hq
    rw [e1, e2, ← Int.add_assoc, ← Int.add_assoc]
    refine LE_iff (LE_and h1 h2 (by omega) (by omega) (by omega) (by omega)) (fun G gm => ⟨fun w => ⟨fun i i0 i1 => w i i0 (by omega), w l (by omega) (by omega)⟩, fun w i i0 i1 => ?_⟩)
    by_cases e : i = l
    · subst e; exact w.2
    · exact w.1 i i0 (by omega)
end LEs
theorem AS_LE (n : Int) (tx : Int → Int) (B0 : qB) (S Km : Int) : ∀ (e : qT) (a J : Int) (ctx : List Int) (K : qK), wf e → Seg B0 S Km e a ctx J → LE (fun pc => B0 42 pc = 1 ∨ B0 42 pc = 6) (fun G gm => AS n tx G gm e a J K) a (a + cl e) J (J + cm e) := by
  intro e
  induction e with
  | num k => intro a J ctx K _ _; exact LE_true
  | var s => intro a J ctx K _ _; exact LE_true
  | add x y hx hy =>
    intro a J ctx K hw hS
    have hc : cl (.add x y) = cl x + cl y := rfl
    have hcm : cm (.add x y) = cm x + cm y := rfl
    obtain ⟨nx, -, mx⟩ := cl_nn x hw.1
    obtain ⟨ny, -, my⟩ := cl_nn y hw.2
    rw [hc, hcm, ← Int.add_assoc, ← Int.add_assoc]
    exact LE_and (hx a J ctx _ hw.1 hS.1) (hy (a + cl x) (J + cm x) ctx K hw.2 hS.2) (by omega) (by omega) (by omega) (by omega)
  | sub x y hx hy =>
    intro a J ctx K hw hS
    have hc : cl (.sub x y) = cl x + cl y + 2 := rfl
    have hcm : cm (.sub x y) = cm x + cm y := rfl
    obtain ⟨nx, -, mx⟩ := cl_nn x hw.1
    obtain ⟨ny, -, my⟩ := cl_nn y hw.2
    obtain ⟨s1, s2, s3, s4, s5, s6, s7, s8⟩ := hS
    rw [hc, hcm]
    have h1 := hx (a + 1) J ctx K hw.1 s5
    have h2 := hy (a + cl x + 2) (J + cm x) ctx K hw.2 s8
    exact LE_and (LE_pt (Or.inl s1)) (LE_and (LE_wide h1 (Int.le_refl _) (show a + 1 + cl x ≤ a + cl x + 2 by omega) (Int.le_refl _) (Int.le_refl _)) (LE_wide h2 (Int.le_refl _) (show a + cl x + 2 + cl y ≤ a + (cl x + cl y + 2) by omega) (Int.le_refl _) (show J + cm x + cm y ≤ J + (cm x + cm y) by omega)) (by omega) (by omega) (by omega) (by omega)) (by omega) (by omega) (by omega) (by omega)
  | neg x hx => intro a J ctx K hw hS; exact hx a J ctx K hw hS
  | mulL g x hx =>
    intro a J ctx K hw hS
    have hc : cl (.mulL g x) = cl x + 2 := rfl
    have hcm : cm (.mulL g x) = cm x := rfl
    obtain ⟨nx, -, mx⟩ := cl_nn x hw.2.2
    have hS' : (if 1 ≤ g then B0 42 a = 3 ∧ B0 43 a = 2 * g ∧ Seg B0 S Km x (a + 1) ctx J ∧ B0 42 (a + cl x + 1) = 3 ∧ B0 43 (a + cl x + 1) = 2 * g + 1
      else B0 42 a = 6 ∧ B0 43 a = (if g = 0 then 1 else 2) ∧ B0 44 a = a + cl x + 2 ∧ SpA B0 S a ctx ∧ Seg B0 S Km x (a + 1) [] J ∧ B0 42 (a + cl x + 1) = 11) := hS
    rw [hc, hcm]
    by_cases hg : 1 ≤ g
    · rw [if_pos hg] at hS'
      refine LE_iff (LE_wide (hx (a + 1) J ctx (fun p w c => K p w (upc c (2 * g + 1) p)) hw.2.2 hS'.2.2.1) (show a ≤ a + 1 by omega) (show a + 1 + cl x ≤ a + (cl x + 2) by omega) (Int.le_refl _) (Int.le_refl _)) (fun G gm => ?_)
      rw [AS, if_pos hg]
    · rw [if_neg hg] at hS'
      refine LE_iff (LE_and (LE_pt (L := LF (dn n tx (.mulL g x)) K) (J := J) (Or.inr hS'.1)) (LE_none (a := a) (b := a + (cl x + 2)) (J := J) (J' := J + cm x)) (by omega) (by omega) (by omega) (by omega)) (fun G gm => ?_)
      rw [AS, if_neg hg, show a + cl x + 2 = a + (cl x + 2) by omega]
  | mulR x k hx =>
    intro a J ctx K hw hS
    have hw' := hw
    obtain ⟨g1, g2, g3, g4, g5, g6, g7⟩ := hw
    obtain ⟨nx, -, mx⟩ := cl_nn x g7
    obtain ⟨nn, -, mn⟩ := cl_nn (.mulR x k) hw'
    have hc : cl (.mulR x k) = rl k * cl x + (if rh k < 0 then cl x + 4 else (rh k - rl k) * (cl x + 1)) + (if rg k = 2 then 2 else 0) := rfl
    have hcm : cm (.mulR x k) = rl k * cm x + (if rh k < 0 then cm x + 1 else (rh k - rl k) * cm x) := rfl
    have hS' : (if rg k = 2 then B0 42 a = 6 ∧ B0 43 a = 0 ∧ B0 44 a = a + cl (.mulR x k) ∧ SpA B0 S a ctx ∧ Rp B0 S Km (fun a c j => Seg B0 S Km x a c j) (cl x) (cm x) (rl k) (rh k) 0 (a + 1) [] J ∧ B0 42 (a + cl (.mulR x k) - 1) = 11
      else Rp B0 S Km (fun a c j => Seg B0 S Km x a c j) (cl x) (cm x) (rl k) (rh k) (rg k) a ctx J) := hS
    by_cases hg : rg k = 2
    · rw [if_pos hg] at hS' hc
      have c1 : 1 ≤ cl (.mulR x k) := by
        have := Int.mul_nonneg g1 nx
        have : 0 ≤ (if rh k < 0 then cl x + 4 else (rh k - rl k) * (cl x + 1)) := by
          split
          · omega
          · exact Int.mul_nonneg (by omega) (by omega)
        omega
      refine LE_iff (LE_and (LE_pt (L := LF (dn n tx (.mulR x k)) K) (J := J) (Or.inr hS'.1)) (LE_none (a := a) (b := a + cl (.mulR x k)) (J := J) (J' := J + cm (.mulR x k))) (by omega) (by omega) (by omega) (by omega)) (fun G gm => ?_)
      rw [AS, if_pos hg]
    · rw [if_neg hg] at hS' hc
      obtain ⟨R1, R2⟩ := hS'
      have el : (((rl k).toNat : Nat) : Int) = rl k := by omega
      have hl := Int.mul_nonneg g1 nx
      have hlm := Int.mul_nonneg g1 mx
      have h1 := LE_all (sp := fun pc => B0 42 pc = 1 ∨ B0 42 pc = 6) (X := fun i G gm => AS n tx G gm x (a + i * cl x) (J + i * cm x) (LF (itr (dn n tx x) (rl k - 1 - i).toNat) (LF (mor n (decide (rg k = 1)) (rl k) (rh k) (dn n tx x)) K))) (a := a) (c := cl x) (J := J) (q := cm x) nx mx (rl k).toNat (fun i i0 i1 => hx _ _ ctx _ g7 (R1 i i0 (by omega)))
      rw [el] at h1
      have h2 : LE (fun pc => B0 42 pc = 1 ∨ B0 42 pc = 6) (fun G gm => if rh k < 0 then G (a + rl k * cl x) = some (LF (mor n (decide (rg k = 1)) (rl k) (rh k) (dn n tx x)) K) ∧ gm (J + rl k * cm x) ∧ AS n tx G gm x (a + rl k * cl x + 2) (J + rl k * cm x + 1) (fun p u c => if u = 0 then LF (mor n (decide (rg k = 1)) (rl k) (rh k) (dn n tx x)) K p 0 c else [])
          else ∀ j, 0 ≤ j → j < rh k - rl k → G (a + rl k * cl x + j * (cl x + 1)) = some (LF (opt (decide (rg k = 1)) (dn n tx x) (rh k - rl k - j).toNat) K) ∧ AS n tx G gm x (a + rl k * cl x + j * (cl x + 1) + 1) (J + rl k * cm x + j * cm x) (LF (opt (decide (rg k = 1)) (dn n tx x) (rh k - rl k - j - 1).toNat) K)) (a + rl k * cl x) (a + cl (.mulR x k)) (J + rl k * cm x) (J + cm (.mulR x k)) := by
        rw [hc, hcm]
        by_cases hn : rh k < 0
        · simp only [if_pos hn] at R2 ⊢
          obtain ⟨v1, v2, v3, v4, v5, v6, v7, v8, v9, v10, v11, v12, v13, v14⟩ := R2
          have hb := hx _ _ _ (fun p u c => if u = 0 then LF (mor n (decide (rg k = 1)) (rl k) (rh k) (dn n tx x)) K p 0 c else []) g7 v10
          exact LE_and (LE_pt (Or.inl v1)) (LE_and (LE_mk (b := a + rl k * cl x + 1)) (LE_wide hb (show a + rl k * cl x + 1 ≤ a + rl k * cl x + 2 by omega) (show a + rl k * cl x + 2 + cl x ≤ a + (rl k * cl x + (cl x + 4) + 0) by omega) (Int.le_refl _) (show J + rl k * cm x + 1 + cm x ≤ J + (rl k * cm x + (cm x + 1)) by omega)) (by omega) (by omega) (by omega) (by omega)) (by omega) (by omega) (by omega) (by omega)
        · simp only [if_neg hn] at R2 ⊢
          have er : (((rh k - rl k).toNat : Nat) : Int) = rh k - rl k := by omega
          have h3 := LE_all (sp := fun pc => B0 42 pc = 1 ∨ B0 42 pc = 6) (X := fun j G gm => G (a + rl k * cl x + j * (cl x + 1)) = some (LF (opt (decide (rg k = 1)) (dn n tx x) (rh k - rl k - j).toNat) K) ∧ AS n tx G gm x (a + rl k * cl x + j * (cl x + 1) + 1) (J + rl k * cm x + j * cm x) (LF (opt (decide (rg k = 1)) (dn n tx x) (rh k - rl k - j - 1).toNat) K)) (a := a + rl k * cl x) (c := cl x + 1) (J := J + rl k * cm x) (q := cm x) (by omega) mx (rh k - rl k).toNat (fun j j0 j1 => by
            obtain ⟨w1, w2, w3, w4, w5⟩ := R2 j j0 (by omega)
            have hb := hx _ _ _ (LF (opt (decide (rg k = 1)) (dn n tx x) (rh k - rl k - j - 1).toNat) K) g7 w5
            exact LE_and (LE_pt (Or.inl w1)) (LE_wide hb (Int.le_refl _) (show a + rl k * cl x + j * (cl x + 1) + 1 + cl x ≤ a + rl k * cl x + j * (cl x + 1) + (cl x + 1) by omega) (Int.le_refl _) (Int.le_refl _)) (by omega) (by omega) (by omega) (by omega))
          rw [er] at h3
          exact LE_wide h3 (Int.le_refl _) (by omega) (Int.le_refl _) (by omega)
      have hx0 : 0 ≤ (if rh k < 0 then cl x + 4 else (rh k - rl k) * (cl x + 1)) := by
        split
        · omega
        · exact Int.mul_nonneg (by omega) (by omega)
      have hm0 : 0 ≤ (if rh k < 0 then cm x + 1 else (rh k - rl k) * cm x) := by
        split
        · omega
        · exact Int.mul_nonneg (by omega) mx
      refine LE_iff (LE_and h1 h2 (by omega) (by omega) (by omega) (by omega)) (fun G gm => ?_)
      rw [AS, if_neg hg]
      exact Iff.rfl
