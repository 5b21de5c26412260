/-! THE REFERENCE'S SEARCH: what holds while it goes on -/
abbrev qK : Type := Int → Int → qCp → qWs
def LF (D : Int → qCp → qWs) (K : qK) : qK := fun p u c => (D p c).flatMap (fun o => K o.1 (if o.1 = p then u else 0) o.2)
theorem LF_fm {n : Int} {D E : Int → qCp → qWs} {K : qK} (hD : Rg n D) (hE : Rg n E) {p u : Int} {c : qCp} (h0 : 0 ≤ p) (h1 : p ≤ n) : LF (fun p c => (D p c).flatMap (fun o => E o.1 o.2)) K p u c = LF D (LF E K) p u c := by
  show ((D p c).flatMap (fun o => E o.1 o.2)).flatMap (fun o => K o.1 (if o.1 = p then u else 0) o.2) = (D p c).flatMap (fun o => (E o.1 o.2).flatMap (fun o' => K o'.1 (if o'.1 = o.1 then (if o.1 = p then u else 0) else 0) o'.2))
  rw [List.flatMap_assoc]
  apply fm_eq
  intro o ho
  have hr := hD p c h0 h1 o ho
  apply fm_eq
  intro o' ho'
  have hr' := hE o.1 o.2 (by omega) hr.2 o' ho'
  have e : (if o'.1 = p then u else 0) = (if o'.1 = o.1 then (if o.1 = p then u else 0) else 0) := by
    by_cases e : o'.1 = p
    · rw [if_pos e, if_pos (by omega), if_pos (by omega)]
    · rw [if_neg e]
      by_cases e2 : o'.1 = o.1
      · rw [if_pos e2, if_neg (by omega)]
      · rw [if_neg e2]
  rw [e]
def KP (K : qK) : Prop := ∀ p u c c', pl (K p u c) = pl (K p u c')
theorem KP_LF {D : Int → qCp → qWs} {K : qK} (hD : Pl D) (hK : KP K) : KP (LF D K) := fun p u c c' => pl_fm (F := fun q d => K q (if q = p then u else 0) d) (fun q d d' => hK q _ d d') _ _ (hD p c c')
def SB (b : Nat) (y : Int) : Prop := b ≤ 48 ∨ b = 50 ∨ (52 ≤ b ∧ b ≤ 64) ∨ 71 ≤ b
abbrev qG : Type := Int → Option qK
section LV
variable (B0 Bst : qB) (G : qG) (gm : Int → Prop) (k0 k1 j0 j1 : Int) (w7 : Prop) (bot lim W : Int) (I O F A : qB → Prop)
def St (B : qB) : Prop := FrS SB B0 B ∧ MR B ∧ CR B ∧ (∀ y, y < bot → B 65 y = Bst 65 y) ∧ (∀ κ, ¬ (k0 ≤ κ ∧ κ < k1) → fbit B κ = fbit Bst κ) ∧ (∀ q, ¬ (j0 ≤ q ∧ q < j1) → B 51 q = Bst 51 q) ∧ (w7 → ∀ y, B 70 y = Bst 70 y)
def kN (pc u p : Int) : Int := (B0 54 (B0 45 pc) + u) * (B0 57 0 + 1) + p
def dpt (pc : Int) : Int := B0 54 (B0 45 pc + 1) - B0 54 (B0 45 pc) - 1
def ms (pc p j : Int) : Int := ((B0 57 0 - p) * 16 + j) * 8192 - pc
/-- a place of the notes -/
def Kr (pc p u : Int) : Prop := 0 ≤ p ∧ p ≤ B0 57 0 ∧ 0 ≤ u ∧ u ≤ dpt B0 pc
def Inv (B : qB) (μ : Int) : Prop := ∀ pc L p u, G pc = some L → Kr B0 pc p u → fbit B (kN B0 pc u p) = true → ms B0 pc p (dpt B0 pc - u) ≤ μ → ∀ c, L p u c = []
def MP (B B' : qB) : Prop := ∀ pc L p u, G pc = some L → Kr B0 pc p u → fbit B' (kN B0 pc u p) = true → fbit B (kN B0 pc u p) = true ∨ ∀ c, L p u c = []
def PF (B B' : qB) (h : Int) : Prop := St B0 Bst k0 k1 j0 j1 w7 bot B' ∧ B' 66 0 = h ∧ (∀ y, y < h → B' 65 y = B 65 y) ∧ (∀ i, 0 ≤ i → i < 20 → B' 49 i = B 49 i) ∧ (∀ q, gm q → B' 51 q = B 51 q) ∧ MP B0 G B B'
def FIN (o : Int × qCp) : Prop := ∀ B', St B0 Bst k0 k1 j0 j1 w7 bot B' → B' 69 0 = o.1 → (∀ i, 0 ≤ i → i < 20 → B' 49 i = o.2 i) → F B'
def RnP (p u b : Int) (ctx : List Int) (K : qK) (β : Int) : Prop := ∀ (B : qB) (c : qCp) (h : Int), St B0 Bst k0 k1 j0 j1 w7 bot B → B 68 0 = b → B 69 0 = p → Cn (B 51) p ctx u → (∀ i, 0 ≤ i → i < 20 → B 49 i = c i) → B 66 0 = h → bot ≤ h → h + (B0 57 0 - p) * W + β ≤ lim → Inv B0 G B (ms B0 b p (ctx.length - u)) → (K p u c = [] → ∀ B', PF B0 Bst G gm k0 k1 j0 j1 w7 bot B B' h → O B') → (∀ o r, K p u c = o :: r → FIN B0 Bst k0 k1 j0 j1 w7 bot F o) → I B
end LV
/-- a loop over the heap of what is to do -/
def LPo (m : Nat) (h0 : qH) (dd : Nat) (bot : Int) (I O F A : qB → Prop) : Prop :=
  (∀ B, qZ m h0 dd k_one 0 [some (.ref m), none, none] [] B (fun o B' => ∃ v : Int, o = .inl (some (iv v)) ∧ ((v = 0 ∧ I B') ∨ (v = 1 ∧ O B') ∨ (v = 2 ∧ F B') ∨ (v = 3 ∧ A B'))) → I B) ∧
  (∀ B h p pc, B 66 0 = h + 1 → bot ≤ h → h < 2500000 → B 65 h = 8192 * p + pc → 0 ≤ pc → pc < 8192 → 0 ≤ p → p ≤ 1000 → I (u2 (u2 (u2 B 66 0 h) 68 0 pc) 69 0 p) → O B) ∧
  (∀ B h s v, B 66 0 = h + 1 → bot ≤ h → h < 2500000 → B 65 h = bw s v → 0 ≤ s → s < 20 → -1 ≤ v → v ≤ 1000 → O (u2 (u2 B 66 0 h) 49 s v) → O B) ∧
  (∀ B h s v, B 66 0 = h + 1 → bot ≤ h → h < 2500000 → B 65 h = bw (32 + s) v → 0 ≤ s → s < 800 → -1 ≤ v → v ≤ 1000 → O (u2 (u2 B 66 0 h) 51 s v) → O B)
def HG (m : Nat) (h0 : qH) (d : Nat) (B0 : qB) (G : qG) (k0 k1 j0 j1 : Int) (w7 : Prop) (bot lim W : Int) (I O F A : qB → Prop) : Prop :=
  LPo m h0 (d + 4) bot I O F A ∧ TXT B0 ∧ 0 ≤ bot ∧ lim < 2499900 ∧ 0 ≤ W ∧ 0 ≤ j0 ∧ j1 ≤ 800 ∧ m + 100 < 1000000000 ∧
  (∀ pc L p u, G pc = some L → Kr B0 pc p u → k0 ≤ kN B0 pc u p ∧ kN B0 pc u p < k1 ∧ 0 ≤ kN B0 pc u p ∧ kN B0 pc u p < 5120000) ∧
  (∀ pc L p u pc' L' p' u', G pc = some L → G pc' = some L' → Kr B0 pc p u → Kr B0 pc' p' u' → kN B0 pc u p = kN B0 pc' u' p' → pc = pc' ∧ p = p' ∧ u = u') ∧
  (∀ pc L, G pc = some L → 0 ≤ pc ∧ pc < B0 46 0 ∧ (B0 42 pc = 1 ∨ B0 42 pc = 6))
section LV2
variable {B0 Bst : qB} {G : qG} {gm : Int → Prop} {k0 k1 j0 j1 : Int} {w7 : Prop} {bot lim W : Int} {I O F A : qB → Prop} {B B1 B' : qB}
theorem St_free {b : Nat} {x z : Int} (hb : b = 66 ∨ b = 68 ∨ b = 69) (h : St B0 Bst k0 k1 j0 j1 w7 bot B) : St B0 Bst k0 k1 j0 j1 w7 bot (u2 B b x z) := by
  obtain ⟨h1, h2, h3, h4, h5, h6, h7⟩ := h
  refine ⟨h1.u2 (by unfold SB; omega), fun q q0 q1 => by rw [u2_bank (by omega)]; exact h2 q q0 q1, fun q q0 q1 => by rw [u2_bank (by omega)]; exact h3 q q0 q1, fun y hy => by rw [u2_bank (by omega)]; exact h4 y hy, fun κ hκ => by rw [fbit_eq (B := B) (fun y => u2_bank (by omega))]; exact h5 κ hκ, fun q hq => by rw [u2_bank (by omega)]; exact h6 q hq, fun w y => by rw [u2_bank (by omega)]; exact h7 w y⟩
theorem St_65 {x z : Int} (hx : bot ≤ x) (h : St B0 Bst k0 k1 j0 j1 w7 bot B) : St B0 Bst k0 k1 j0 j1 w7 bot (u2 B 65 x z) := by
  obtain ⟨h1, h2, h3, h4, h5, h6, h7⟩ := h
  refine ⟨h1.u2 (by unfold SB; omega), fun q q0 q1 => by rw [u2_bank (by omega)]; exact h2 q q0 q1, fun q q0 q1 => by rw [u2_bank (by omega)]; exact h3 q q0 q1, fun y hy => by rw [u2_idx (by omega)]; exact h4 y hy, fun κ hκ => by rw [fbit_eq (B := B) (fun y => u2_bank (by omega))]; exact h5 κ hκ, fun q hq => by rw [u2_bank (by omega)]; exact h6 q hq, fun w y => by rw [u2_bank (by omega)]; exact h7 w y⟩
theorem St_49 {x z : Int} (z0 : -1 ≤ z) (z1 : z ≤ 1000) (h : St B0 Bst k0 k1 j0 j1 w7 bot B) : St B0 Bst k0 k1 j0 j1 w7 bot (u2 B 49 x z) := by
  obtain ⟨h1, h2, h3, h4, h5, h6, h7⟩ := h
  refine ⟨h1.u2 (by unfold SB; omega), fun q q0 q1 => by rw [u2_bank (by omega)]; exact h2 q q0 q1, fun q q0 q1 => ?_, fun y hy => by rw [u2_bank (by omega)]; exact h4 y hy, fun κ hκ => by rw [fbit_eq (B := B) (fun y => u2_bank (by omega))]; exact h5 κ hκ, fun q hq => by rw [u2_bank (by omega)]; exact h6 q hq, fun w y => by rw [u2_bank (by omega)]; exact h7 w y⟩
  by_cases e : q = x
  · subst e; rw [u2_same]; exact ⟨z0, z1⟩
  · rw [u2_idx e]; exact h3 q q0 q1
theorem St_51 {x z : Int} (x0 : j0 ≤ x) (x1 : x < j1) (z0 : -1 ≤ z) (z1 : z ≤ 1000) (h : St B0 Bst k0 k1 j0 j1 w7 bot B) : St B0 Bst k0 k1 j0 j1 w7 bot (u2 B 51 x z) := by
  obtain ⟨h1, h2, h3, h4, h5, h6, h7⟩ := h
  refine ⟨h1.u2 (by unfold SB; omega), fun q q0 q1 => ?_, fun q q0 q1 => by rw [u2_bank (by omega)]; exact h3 q q0 q1, fun y hy => by rw [u2_bank (by omega)]; exact h4 y hy, fun κ hκ => by rw [fbit_eq (B := B) (fun y => u2_bank (by omega))]; exact h5 κ hκ, fun q hq => by rw [u2_idx (by omega)]; exact h6 q hq, fun w y => by rw [u2_bank (by omega)]; exact h7 w y⟩
  by_cases e : q = x
  · subst e; rw [u2_same]; exact ⟨z0, z1⟩
  · rw [u2_idx e]; exact h2 q q0 q1
theorem St_ws {κ : Int} (x0 : k0 ≤ κ) (x1 : κ < k1) (h : St B0 Bst k0 k1 j0 j1 w7 bot B) : St B0 Bst k0 k1 j0 j1 w7 bot (wsB B κ) := by
  obtain ⟨h1, h2, h3, h4, h5, h6, h7⟩ := h
  refine ⟨h1.u2 (by unfold SB; omega), fun q q0 q1 => by unfold wsB; rw [u2_bank (by omega)]; exact h2 q q0 q1, fun q q0 q1 => by unfold wsB; rw [u2_bank (by omega)]; exact h3 q q0 q1, fun y hy => by unfold wsB; rw [u2_bank (by omega)]; exact h4 y hy, fun κ' hκ => ?_, fun q hq => by unfold wsB; rw [u2_bank (by omega)]; exact h6 q hq, fun w y => by unfold wsB; rw [u2_bank (by omega)]; exact h7 w y⟩
  rw [fbit_set, decide_eq_false (by omega), Bool.or_false]
  exact h5 κ' hκ
theorem St_ps {v : Int} (hb : bot ≤ B 66 0) (h : St B0 Bst k0 k1 j0 j1 w7 bot B) : St B0 Bst k0 k1 j0 j1 w7 bot (psB B v) := St_free (Or.inl rfl) (St_65 hb h)
theorem MP_refl : MP B0 G B B := fun _ _ _ _ _ _ h => Or.inl h
theorem MP_trans {B2 : qB} (h : MP B0 G B B1) (g : MP B0 G B1 B2) : MP B0 G B B2 := by
  intro pc L p u hG hr hf
  rcases g pc L p u hG hr hf with q | q
  · exact h pc L p u hG hr q
  · exact Or.inr q
theorem MP_eq (e : ∀ k, fbit B' k = fbit B k) : MP B0 G B B' := fun _ _ _ _ _ _ h => Or.inl (by rw [← e]; exact h)
theorem PF_refl {h : Int} (hs : St B0 Bst k0 k1 j0 j1 w7 bot B) (hh : B 66 0 = h) : PF B0 Bst G gm k0 k1 j0 j1 w7 bot B B h := ⟨hs, hh, fun _ _ => rfl, fun _ _ _ => rfl, fun _ _ => rfl, MP_refl⟩
theorem PF_from {h : Int} (e65 : ∀ y, y < h → B1 65 y = B 65 y) (e49 : ∀ i, 0 ≤ i → i < 20 → B1 49 i = B 49 i) (e51 : ∀ q, gm q → B1 51 q = B 51 q) (em : MP B0 G B B1) (g : PF B0 Bst G gm k0 k1 j0 j1 w7 bot B1 B' h) : PF B0 Bst G gm k0 k1 j0 j1 w7 bot B B' h := by
  obtain ⟨g1, g2, g3, g4, g5, g6⟩ := g
  exact ⟨g1, g2, fun y hy => (g3 y hy).trans (e65 y hy), fun i i0 i1 => (g4 i i0 i1).trans (e49 i i0 i1), fun q hq => (g5 q hq).trans (e51 q hq), MP_trans em g6⟩
theorem Inv_mono {μ μ' : Int} (h : Inv B0 G B μ) (hl : μ' ≤ μ) (e : ∀ k, fbit B' k = fbit B k) : Inv B0 G B' μ' := fun pc L p u hG hr hf hm => h pc L p u hG hr (by rw [← e]; exact hf) (by omega)
/-- what a step that fails owes -/
theorem fails {B : qB} {h : Int} {R : Prop} (hs : St B0 Bst k0 k1 j0 j1 w7 bot B) (hh : B 66 0 = h) (hO : R → ∀ B', PF B0 Bst G gm k0 k1 j0 j1 w7 bot B B' h → O B') (r : R) : O B := hO r B (PF_refl hs hh)
theorem RnP_eq {p u b β : Int} {ctx : List Int} {K K' : qK} (h : RnP B0 Bst G gm k0 k1 j0 j1 w7 bot lim W I O F p u b ctx K β) (e : ∀ c, K' p u c = K p u c) : RnP B0 Bst G gm k0 k1 j0 j1 w7 bot lim W I O F p u b ctx K' β := by
  intro B c hh g1 g2 g3 g4 g5 g6 g7 g8 g9 g10 g11
  rw [e c] at g10 g11
  exact h B c hh g1 g2 g3 g4 g5 g6 g7 g8 g9 g10 g11
theorem RnP_le {p u b β β' : Int} {ctx : List Int} {K : qK} (h : RnP B0 Bst G gm k0 k1 j0 j1 w7 bot lim W I O F p u b ctx K β) (e : β ≤ β') : RnP B0 Bst G gm k0 k1 j0 j1 w7 bot lim W I O F p u b ctx K β' := by
  intro B c hh g1 g2 g3 g4 g5 g6 g7 g8 g9 g10 g11
  exact h B c hh g1 g2 g3 g4 g5 g6 g7 (by omega) g9 g10 g11
end LV2
