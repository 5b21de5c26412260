/-! THE REFERENCE'S SEARCH: trees -/
def sv : qT → Int
  | .num _ => 0
  | .var _ => 0
  | .add a b => sv a + sv b
  | .sub a b => sv a + sv b
  | .neg a => sv a
  | .mulL k a => if 1 ≤ k then sv a + 2 else sv a
  | .mulR a k => rl k * sv a + (if rh k < 0 then sv a else (rh k - rl k) * sv a)
def pzR (l h x : Int) : Int := l * x + (if h < 0 then x + 2 else (h - l) * (x + 1))
/-- how high the heap grows while one byte is looked at -/
def pz : qT → Int
  | .num _ => 0
  | .var _ => 0
  | .add a b => pz a + pz b
  | .sub a b => pz a + pz b + 1
  | .neg a => pz a
  | .mulL k a => if 1 ≤ k then pz a + 2 else sv a
  | .mulR a k => if rg k = 2 then sv (.mulR a k) else pzR (rl k) (rh k) (pz a)
/-- the same within questions -/
def pq : qT → Int
  | .num _ => 0
  | .var _ => 0
  | .add a b => pq a + pq b
  | .sub a b => pq a + pq b
  | .neg a => pq a
  | .mulL k a => if 1 ≤ k then pq a else pz a
  | .mulR a k => if rg k = 2 then pzR (rl k) (rh k) (pz a) else rl k * pq a + (if rh k < 0 then pq a else (rh k - rl k) * pq a)
theorem pzR_nn {l h x : Int} (l0 : 0 ≤ l) (hh : h = -1 ∨ l ≤ h) (x0 : 0 ≤ x) : 0 ≤ pzR l h x := by
  unfold pzR
  have := Int.mul_nonneg l0 x0
  split
  · omega
  · have := Int.mul_nonneg (show 0 ≤ h - l by omega) (show 0 ≤ x + 1 by omega)
    omega
theorem sv_nn : ∀ e : qT, wf e → 0 ≤ sv e := by
  intro e
  induction e with
  | num k => intro _; exact Int.le_refl _
  | var _ => intro _; exact Int.le_refl _
  | add a b h1 h2 => intro h; have := h1 h.1; have := h2 h.2; unfold sv; omega
  | sub a b h1 h2 => intro h; have := h1 h.1; have := h2 h.2; unfold sv; omega
  | neg a h1 => intro h; exact h1 h
  | mulL k a h1 => intro h; have := h1 h.2.2; unfold sv; split <;> omega
  | mulR a k h1 =>
    intro h
    obtain ⟨g1, g2, g3, g4, g5, g6, g7⟩ := h
    have h2 := h1 g7
    have := Int.mul_nonneg g1 h2
    unfold sv
    split
    · omega
    · have := Int.mul_nonneg (show 0 ≤ rh k - rl k by omega) h2
      omega
theorem pz_nn : ∀ e : qT, wf e → 0 ≤ pz e := by
  intro e
  induction e with
  | num k => intro _; exact Int.le_refl _
  | var _ => intro _; exact Int.le_refl _
  | add a b h1 h2 => intro h; have := h1 h.1; have := h2 h.2; unfold pz; omega
  | sub a b h1 h2 => intro h; have := h1 h.1; have := h2 h.2; unfold pz; omega
  | neg a h1 => intro h; exact h1 h
  | mulL k a h1 => intro h; have := h1 h.2.2; have := sv_nn a h.2.2; unfold pz; split <;> omega
  | mulR a k h1 =>
    intro h
    have h' := h
    obtain ⟨g1, g2, g3, g4, g5, g6, g7⟩ := h
    unfold pz
    split
    · exact sv_nn _ h'
    · exact pzR_nn g1 g3 (h1 g7)
theorem pq_nn : ∀ e : qT, wf e → 0 ≤ pq e := by
  intro e
  induction e with
  | num k => intro _; exact Int.le_refl _
  | var _ => intro _; exact Int.le_refl _
  | add a b h1 h2 => intro h; have := h1 h.1; have := h2 h.2; unfold pq; omega
  | sub a b h1 h2 => intro h; have := h1 h.1; have := h2 h.2; unfold pq; omega
  | neg a h1 => intro h; exact h1 h
  | mulL k a h1 => intro h; have := h1 h.2.2; have := pz_nn a h.2.2; unfold pq; split <;> omega
  | mulR a k h1 =>
    intro h
    obtain ⟨g1, g2, g3, g4, g5, g6, g7⟩ := h
    have h2 := h1 g7
    have := Int.mul_nonneg g1 h2
    unfold pq
    split
    · exact pzR_nn g1 g3 (pz_nn a g7)
    · split
      · omega
      · have := Int.mul_nonneg (show 0 ≤ rh k - rl k by omega) h2
        omega
section ASs
variable (n : Int) (tx : Int → Int) (G : qG) (gm : Int → Prop)
/-- rounds: the ways that are left at their splits -/
def RA (D : Int → qCp → qWs) (P : Int → Int → qK → Prop) (c q l h : Int) (lz : Bool) (a J : Int) (K : qK) : Prop := (∀ i, 0 ≤ i → i < l → P (a + i * c) (J + i * q) (LF (itr D (l - 1 - i).toNat) (LF (mor n lz l h D) K))) ∧ (if h < 0 then G (a + l * c) = some (LF (mor n lz l h D) K) ∧ gm (J + l * q) ∧ P (a + l * c + 2) (J + l * q + 1) (fun p u c => if u = 0 then LF (mor n lz l h D) K p 0 c else [])
  else ∀ j, 0 ≤ j → j < h - l → G (a + l * c + j * (c + 1)) = some (LF (opt lz D (h - l - j).toNat) K) ∧ P (a + l * c + j * (c + 1) + 1) (J + l * q + j * q) (LF (opt lz D (h - l - j - 1).toNat) K))
def AS : qT → Int → Int → qK → Prop
  | .num _, _, _, _ => True
  | .var _, _, _, _ => True
  | .add u v, a, J, K => AS u a J (LF (dn n tx v) K) ∧ AS v (a + cl u) (J + cm u) K
  | .sub u v, a, J, K => G a = some (LF (dn n tx (.sub u v)) K) ∧ AS u (a + 1) J K ∧ AS v (a + cl u + 2) (J + cm u) K
  | .neg u, a, J, K => AS u a J K
  | .mulL g u, a, J, K => if 1 ≤ g then AS u (a + 1) J (fun p w c => K p w (upc c (2 * g + 1) p))
    else G a = some (LF (dn n tx (.mulL g u)) K) ∧ (∀ pc, a < pc → pc < a + cl u + 2 → G pc = none) ∧ (∀ q, J ≤ q → q < J + cm u → ¬ gm q)
  | .mulR u k, a, J, K => if rg k = 2 then G a = some (LF (dn n tx (.mulR u k)) K) ∧ (∀ pc, a < pc → pc < a + cl (.mulR u k) → G pc = none) ∧ (∀ q, J ≤ q → q < J + cm (.mulR u k) → ¬ gm q)
    else RA n G gm (dn n tx u) (fun a J K => AS u a J K) (cl u) (cm u) (rl k) (rh k) (decide (rg k = 1)) a J K
end ASs
/-- questions may be asked -/
def ASK (m : Nat) (h0 : qH) (d : Nat) (B0 : qB) (k0 k1 : Int) (w7 : Prop) (I O A : qB → Prop) : Prop := GI B0 ∧ B0 48 0 ≤ 1995 ∧ B0 56 0 ≤ 4500 ∧ k0 ≤ 0 ∧ B0 56 0 * (B0 57 0 + 1) ≤ k1 ∧ ¬ w7 ∧ (∀ B, qZ m h0 (d + 8) k_asked 0 [some (.ref m), none, none, none, none] [] B (fun o B' => ∃ v : Int, o = .inl (some (iv v)) ∧ ((v = 0 ∧ I B') ∨ (v = 1 ∧ O B'))) → A B)
/-- questions and kept rounds do not stand within one another -/
def nst : qT → Prop
  | .num _ => True
  | .var _ => True
  | .add a b => nst a ∧ nst b
  | .sub a b => nst a ∧ nst b
  | .neg a => nst a
  | .mulL k a => if 1 ≤ k then nst a else aT a = false
  | .mulR a k => if rg k = 2 then aT a = false else nst a
def TR (e : qT) : Prop := ∀ (m : Nat) (h0 : qH) (d : Nat) (B0 Bst : qB) (G : qG) (gm : Int → Prop) (k0 k1 j0 j1 : Int) (w7 : Prop) (bot lim W : Int) (I O F A : qB → Prop) (a J S Km : Int) (ctx : List Int) (K : qK) (p u β β1 : Int), HG m h0 d B0 G k0 k1 j0 j1 w7 bot lim W I O F A → (aT e = false ∨ (ASK m h0 d B0 k0 k1 w7 I O A ∧ nst e)) → Seg B0 S Km e a ctx J → S ≤ 2000 → CH B0 ctx → (∀ q ∈ ctx, gm q ∧ q < J) → ctx.length + sd e ≤ 10 → wf e → AS (B0 57 0) (tB B0) G gm e a J K → KP K → 0 ≤ a → (a + cl e < B0 46 0 ∧ B0 46 0 ≤ 5991) → j0 ≤ J → J + cm e ≤ j1 → lim + 2002 * pq e ≤ 2499000 → 0 ≤ p → p ≤ B0 57 0 → 0 ≤ u → 0 ≤ β → pz e ≤ β1 → β1 + pz e ≤ W →
  RnP B0 Bst G gm k0 k1 j0 j1 w7 bot lim W I O F p u (a + cl e) ctx K β → (∀ p', p < p' → p' ≤ B0 57 0 → RnP B0 Bst G gm k0 k1 j0 j1 w7 bot lim W I O F p' 0 (a + cl e) ctx K β1) → RnP B0 Bst G gm k0 k1 j0 j1 w7 bot lim W I O F p u a ctx (LF (dn (B0 57 0) (tB B0) e) K) (β + pz e)
theorem TR_num (k : Int) : TR (.num k) := by
  intro m h0 d B0 Bst G gm k0 k1 j0 j1 w7 bot lim W I O F A a J S Km ctx K p u β β1 H hA hSeg hS hCH hg hL hw hAS hKP a0 a1 hj0 hj1 hlim p0 p1 u0 hβ hb1 hb2 r r'
  have hpz : pz (.num k) = 0 := rfl
  rw [hpz, Int.add_zero]
  by_cases hk : k = 0
  · have hcl : cl (.num k) = 0 := by unfold cl; rw [if_pos hk]
    rw [hcl, Int.add_zero] at r
    refine RnP_eq r (fun c => ?_)
    unfold LF
    rw [show dn (B0 57 0) (tB B0) (.num k) p c = if k = 0 ∨ good (B0 57 0) (tB B0) k p = true then [(p, c)] else [] from rfl, if_pos (Or.inl hk)]
    simp only [List.flatMap_cons, List.flatMap_nil, List.append_nil]
    rw [if_pos trivial]
  · have hcl : cl (.num k) = 1 := by unfold cl; rw [if_neg hk]
    rw [hcl] at r a1
    have h42 : B0 42 a = 6 + k := by
      rcases hSeg with q | q
      · exact absurd q hk
      · exact q
    have hw' : 0 ≤ k ∧ k ≤ 4 := hw
    exact S_test H a0 (by omega) (by omega) hw'.2 h42 p0 p1 r
theorem TR_var (s : Nat) : TR (.var s) := by
  intro m h0 d B0 Bst G gm k0 k1 j0 j1 w7 bot lim W I O F A a J S Km ctx K p u β β1 H hA hSeg hS hCH hg hL hw hAS hKP a0 a1 hj0 hj1 hlim p0 p1 u0 hβ hb1 hb2 r r'
  have hpz : pz (.var s) = 0 := rfl
  have hcl : cl (.var s) = 1 := rfl
  have hsd : sd (.var s) = -1 := rfl
  rw [hpz] at hb2
  rw [hpz, Int.add_zero]
  rw [hcl] at a1 r'
  obtain ⟨q1, q2, q3, q4⟩ := hSeg
  exact S_byte H a0 (by omega) q1 q2 q3 q4 p0 p1 (by omega) (by omega) (fun hp => r' (p + 1) (by omega) (by omega))
theorem TR_add {x y : qT} (hx : TR x) (hy : TR y) : TR (.add x y) := by
  intro m h0 d B0 Bst G gm k0 k1 j0 j1 w7 bot lim W I O F A a J S Km ctx K p u β β1 H hA hSeg hS hCH hg hL hw hAS hKP a0 a1 hj0 hj1 hlim p0 p1 u0 hβ hb1 hb2 r r'
  have hc : cl (.add x y) = cl x + cl y := rfl
  have hcm : cm (.add x y) = cm x + cm y := rfl
  have hsd : sd (.add x y) = max (sd x) (sd y) := rfl
  have hpz : pz (.add x y) = pz x + pz y := rfl
  have hpq : pq (.add x y) = pq x + pq y := rfl
  obtain ⟨nx, -, mx⟩ := cl_nn x hw.1
  obtain ⟨ny, -, my⟩ := cl_nn y hw.2
  have px := pz_nn x hw.1
  have py := pz_nn y hw.2
  have qx := pq_nn x hw.1
  have qy := pq_nn y hw.2
  have hAx : aT x = false ∨ (ASK m h0 d B0 k0 k1 w7 I O A ∧ nst x) := hA.imp (fun q => (Bool.or_eq_false_iff.mp q).1) (fun w => ⟨w.1, w.2.1⟩)
  have hAy : aT y = false ∨ (ASK m h0 d B0 k0 k1 w7 I O A ∧ nst y) := hA.imp (fun q => (Bool.or_eq_false_iff.mp q).2) (fun w => ⟨w.1, w.2.2⟩)
  have ry : ∀ p' u' β', 0 ≤ p' → p' ≤ B0 57 0 → 0 ≤ u' → 0 ≤ β' → p ≤ p' → RnP B0 Bst G gm k0 k1 j0 j1 w7 bot lim W I O F p' u' (a + cl x + cl y) ctx K β' → RnP B0 Bst G gm k0 k1 j0 j1 w7 bot lim W I O F p' u' (a + cl x) ctx (LF (dn (B0 57 0) (tB B0) y) K) (β' + pz y) := by
    intro p' u' β' q0 q1 q2 q3 q4 rr
    exact hy m h0 d B0 Bst G gm k0 k1 j0 j1 w7 bot lim W I O F A (a + cl x) (J + cm x) S Km ctx K p' u' β' β1 H hAy hSeg.2 hS hCH (fun q hq => ⟨(hg q hq).1, by have := (hg q hq).2; omega⟩) (by omega) hw.2 hAS.2 hKP (by omega) (by omega) (by omega) (by omega) (by omega) q0 q1 q2 q3 (by omega) (by omega) rr (fun p'' w1 w2 => by have := r' p'' (by omega) w2; rw [hc, ← Int.add_assoc] at this; exact this)
  rw [hc, ← Int.add_assoc] at r
  have h1 := hx m h0 d B0 Bst G gm k0 k1 j0 j1 w7 bot lim W I O F A a J S Km ctx (LF (dn (B0 57 0) (tB B0) y) K) p u (β + pz y) (β1 + pz y) H hAx hSeg.1 hS hCH hg (by omega) hw.1 hAS.1 (KP_LF (dn_Pl _ _ _) hKP) a0 (by omega) hj0 (by omega) (by omega) p0 p1 u0 (by omega) (by omega) (by omega) (ry p u β p0 p1 u0 hβ (Int.le_refl _) r) (fun p' w1 w2 => ry p' 0 β1 (by omega) w2 (Int.le_refl _) (by omega) (by omega) (by have := r' p' w1 w2; rw [hc, ← Int.add_assoc] at this; exact this))
  refine RnP_eq (RnP_le h1 (by omega)) (fun c => ?_)
  exact LF_fm (dn_Rg _ _ _) (dn_Rg _ _ _) p0 p1
theorem TR_sub {x y : qT} (hx : TR x) (hy : TR y) : TR (.sub x y) := by
  intro m h0 d B0 Bst G gm k0 k1 j0 j1 w7 bot lim W I O F A a J S Km ctx K p u β β1 H hA hSeg hS hCH hg hL hw hAS hKP a0 a1 hj0 hj1 hlim p0 p1 u0 hβ hb1 hb2 r r'
  have hc : cl (.sub x y) = cl x + cl y + 2 := rfl
  have hcm : cm (.sub x y) = cm x + cm y := rfl
  have hsd : sd (.sub x y) = max 0 (max (sd x) (sd y)) := rfl
  have hpz : pz (.sub x y) = pz x + pz y + 1 := rfl
  have hpq : pq (.sub x y) = pq x + pq y := rfl
  obtain ⟨nx, -, mx⟩ := cl_nn x hw.1
  obtain ⟨ny, -, my⟩ := cl_nn y hw.2
  have px := pz_nn x hw.1
  have py := pz_nn y hw.2
  have qx := pq_nn x hw.1
  have qy := pq_nn y hw.2
  have hAx : aT x = false ∨ (ASK m h0 d B0 k0 k1 w7 I O A ∧ nst x) := hA.imp (fun q => (Bool.or_eq_false_iff.mp q).1) (fun w => ⟨w.1, w.2.1⟩)
  have hAy : aT y = false ∨ (ASK m h0 d B0 k0 k1 w7 I O A ∧ nst y) := hA.imp (fun q => (Bool.or_eq_false_iff.mp q).2) (fun w => ⟨w.1, w.2.2⟩)
  obtain ⟨s1, s2, s3, s4, s5, s6, s7, s8⟩ := hSeg
  have eb : a + cl (.sub x y) = a + cl x + cl y + 2 := by omega
  rw [eb] at r
  have r2 : ∀ p', p < p' → p' ≤ B0 57 0 → RnP B0 Bst G gm k0 k1 j0 j1 w7 bot lim W I O F p' 0 (a + cl x + cl y + 2) ctx K β1 := fun p' w1 w2 => by have := r' p' w1 w2; rw [eb] at this; exact this
  have jx : ∀ p' u' β', RnP B0 Bst G gm k0 k1 j0 j1 w7 bot lim W I O F p' u' (a + cl x + cl y + 2) ctx K β' → RnP B0 Bst G gm k0 k1 j0 j1 w7 bot lim W I O F p' u' (a + 1 + cl x) ctx K β' := fun p' u' β' rr => S_jump H (by omega) (by omega) (by rw [show a + 1 + cl x = a + cl x + 1 by omega]; exact s6) (by rw [show a + 1 + cl x = a + cl x + 1 by omega]; exact s7) (by omega) rr
  have rx := hx m h0 d B0 Bst G gm k0 k1 j0 j1 w7 bot lim W I O F A (a + 1) J S Km ctx K p u β β1 H hAx s5 hS hCH hg (by omega) hw.1 hAS.2.1 hKP (by omega) (by omega) hj0 (by omega) (by omega) p0 p1 u0 hβ (by omega) (by omega) (jx p u β r) (fun p' w1 w2 => jx p' 0 β1 (r2 p' w1 w2))
  have ry := hy m h0 d B0 Bst G gm k0 k1 j0 j1 w7 bot lim W I O F A (a + cl x + 2) (J + cm x) S Km ctx K p u β β1 H hAy s8 hS hCH (fun q hq => ⟨(hg q hq).1, by have := (hg q hq).2; omega⟩) (by omega) hw.2 hAS.2.2 hKP (by omega) (by omega) (by omega) (by omega) (by omega) p0 p1 u0 hβ (by omega) (by omega) (by rw [show a + cl x + 2 + cl y = a + cl x + cl y + 2 by omega]; exact r) (fun p' w1 w2 => by rw [show a + cl x + 2 + cl y = a + cl x + cl y + 2 by omega]; exact r2 p' w1 w2)
  exact S_split H a0 (by omega) s1 s2 s3 (by omega) (by omega) (by omega) hS s4 hCH (fun q hq => (hg q hq).1) hAS.1 (KP_LF (dn_Pl _ _ _) hKP) (fun c => by unfold LF; rw [show dn (B0 57 0) (tB B0) (.sub x y) p c = dn (B0 57 0) (tB B0) x p c ++ dn (B0 57 0) (tB B0) y p c from rfl, List.flatMap_append]) p0 p1 (by omega) (by omega) (by omega) rx ry
theorem TR_neg {x : qT} (hx : TR x) : TR (.neg x) := by
  intro m h0 d B0 Bst G gm k0 k1 j0 j1 w7 bot lim W I O F A a J S Km ctx K p u β β1 H hA hSeg hS hCH hg hL hw hAS hKP a0 a1 hj0 hj1 hlim p0 p1 u0 hβ hb1 hb2 r r'
  exact hx m h0 d B0 Bst G gm k0 k1 j0 j1 w7 bot lim W I O F A a J S Km ctx K p u β β1 H hA hSeg hS hCH hg hL hw hAS hKP a0 a1 hj0 hj1 hlim p0 p1 u0 hβ hb1 hb2 r r'
theorem TR_grp {x : qT} {g : Int} (h1 : 1 ≤ g) (hx : TR x) : TR (.mulL g x) := by
  intro m h0 d B0 Bst G gm k0 k1 j0 j1 w7 bot lim W I O F A a J S Km ctx K p u β β1 H hA hSeg hS hCH hg hL hw hAS hKP a0 a1 hj0 hj1 hlim p0 p1 u0 hβ hb1 hb2 r r'
  have hc : cl (.mulL g x) = cl x + 2 := rfl
  have hcm : cm (.mulL g x) = cm x := rfl
  have hsd : sd (.mulL g x) = sd x := by rw [sd, if_pos h1]
  have hpz : pz (.mulL g x) = pz x + 2 := by rw [pz, if_pos h1]
  have hpq : pq (.mulL g x) = pq x := by rw [pq, if_pos h1]
  obtain ⟨w1, w2, w3⟩ := hw
  obtain ⟨nx, -, mx⟩ := cl_nn x w3
  have px := pz_nn x w3
  have hAx : aT x = false ∨ (ASK m h0 d B0 k0 k1 w7 I O A ∧ nst x) := hA.imp (fun q => (Bool.or_eq_false_iff.mp q).1) (fun w => ⟨w.1, by have := w.2; rw [nst, if_pos h1] at this; exact this⟩)
  have hSeg' : B0 42 a = 3 ∧ B0 43 a = 2 * g ∧ Seg B0 S Km x (a + 1) ctx J ∧ B0 42 (a + cl x + 1) = 3 ∧ B0 43 (a + cl x + 1) = 2 * g + 1 := by
    have h9 : (if 1 ≤ g then B0 42 a = 3 ∧ B0 43 a = 2 * g ∧ Seg B0 S Km x (a + 1) ctx J ∧ B0 42 (a + cl x + 1) = 3 ∧ B0 43 (a + cl x + 1) = 2 * g + 1 else _) := hSeg
    rw [if_pos h1] at h9
    exact h9
  have hAS' : AS (B0 57 0) (tB B0) G gm x (a + 1) J (fun p w c => K p w (upc c (2 * g + 1) p)) := by
    have h9 : (if 1 ≤ g then AS (B0 57 0) (tB B0) G gm x (a + 1) J (fun p w c => K p w (upc c (2 * g + 1) p)) else _) := hAS
    rw [if_pos h1] at h9
    exact h9
  obtain ⟨s1, s2, s3, s4, s5⟩ := hSeg'
  have hKP' : KP (fun p w c => K p w (upc c (2 * g + 1) p)) := fun p u c c' => hKP p u _ _
  rw [hpz] at hb1 hb2 ⊢
  have rs : ∀ p' u' β', 0 ≤ p' → p' ≤ B0 57 0 → 0 ≤ β' → RnP B0 Bst G gm k0 k1 j0 j1 w7 bot lim W I O F p' u' (a + cl (.mulL g x)) ctx K β' → RnP B0 Bst G gm k0 k1 j0 j1 w7 bot lim W I O F p' u' (a + 1 + cl x) ctx (fun p w c => K p w (upc c (2 * g + 1) p)) (β' + 1) := by
    intro p' u' β' q0 q1 q2 rr
    rw [show a + cl (.mulL g x) = a + 1 + cl x + 1 by omega] at rr
    exact S_save H (by omega) (by omega) (by rw [show a + 1 + cl x = a + cl x + 1 by omega]; exact s4) (by rw [show a + 1 + cl x = a + cl x + 1 by omega]; exact s5) (by omega) (by omega) q0 q1 q2 rr
  have rx := hx m h0 d B0 Bst G gm k0 k1 j0 j1 w7 bot lim W I O F A (a + 1) J S Km ctx (fun p w c => K p w (upc c (2 * g + 1) p)) p u (β + 1) (β1 + 1) H hAx s3 hS hCH hg (by omega) w3 hAS' hKP' (by omega) (by omega) hj0 (by omega) (by omega) p0 p1 u0 (by omega) (by omega) (by omega) (rs p u β p0 p1 hβ r) (fun p' q1 q2 => rs p' 0 β1 (by omega) q2 (by omega) (r' p' q1 q2))
  have r0 := S_save H a0 (by omega) s1 s2 (by omega) (by omega) p0 p1 (by omega) rx
  refine RnP_eq (RnP_le r0 (by omega)) (fun c => ?_)
  unfold LF
  rw [show dn (B0 57 0) (tB B0) (.mulL g x) p c = if 1 ≤ g then (dn (B0 57 0) (tB B0) x p (upc c (2 * g) p)).flatMap (fun o => [(o.1, upc o.2 (2 * g + 1) o.1)]) else _ from rfl, if_pos h1, List.flatMap_assoc]
  apply fm_eq
  intro o _
  simp only [List.flatMap_cons, List.flatMap_nil, List.append_nil]
