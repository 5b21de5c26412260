/-! THE REFERENCE'S SEARCH: all trees -/
theorem pq0 : ∀ e : qT, aT e = false → pq e = 0 := by
  intro e
  induction e with
  | num k => intro _; rfl
  | var s => intro _; rfl
  | add a b ha hb => intro h; have h' := Bool.or_eq_false_iff.mp h; rw [pq, ha h'.1, hb h'.2]; rfl
  | sub a b ha hb => intro h; have h' := Bool.or_eq_false_iff.mp h; rw [pq, ha h'.1, hb h'.2]; rfl
  | neg a ha => intro h; exact ha h
  | mulL k a ha =>
    intro h
    have h' := Bool.or_eq_false_iff.mp h
    have hk : 1 ≤ k := by have := of_decide_eq_false h'.2; omega
    rw [pq, if_pos hk]
    exact ha h'.1
  | mulR a k ha =>
    intro h
    have h' := Bool.or_eq_false_iff.mp h
    have hk := of_decide_eq_false h'.2
    rw [pq, if_neg hk, ha h'.1]
    split <;> simp
theorem body_ok {x : qT} (hx : TR x) {m : Nat} {h0 : qH} {d : Nat} {B0 : qB} {a J S Km : Int} (hA : aT x = false) (hSeg : Seg B0 S Km x (a + 1) [] J) (hS : S ≤ 2000) (hL : sd x ≤ 10) (hw : wf x) (a0 : 0 ≤ a) (a1 : a + cl x + 2 < B0 46 0 ∧ B0 46 0 ≤ 5991) : BodyOK m h0 d B0 a (a + cl x + 2) J (cm x) (pz x) (dn (B0 57 0) (tB B0) x) := by
  obtain ⟨nx, -, mx⟩ := cl_nn x hw
  have px := pz_nn x hw
  obtain ⟨-, G, gm, e1, e2, e3⟩ := AS_LE (B0 57 0) (tB B0) B0 S Km x (a + 1) J [] (fun p _ c => [(p, c)]) hw hSeg
  refine ⟨G, gm, fun pc L h => by have := e2 pc L h; exact ⟨this.1, by omega, this.2.2⟩, ?_⟩
  intro Bst k0 k1 bot lim W I O F p β1 H hlim p0 p1 hb1 hb2 r
  have eb : a + cl x + 2 - 1 = a + 1 + cl x := by omega
  rw [eb] at r
  exact hx m h0 d B0 Bst G gm k0 k1 J (J + cm x) True bot lim W I O F (fun _ => False) (a + 1) J S Km [] (fun p _ c => [(p, c)]) p 0 β1 β1 H (Or.inl hA) hSeg hS trivial (fun q hq => by simp at hq) (by simp only [List.length_nil]; omega) hw e1 (fun _ _ _ _ => rfl) (by omega) (by omega) (Int.le_refl _) (Int.le_refl _) (by rw [pq0 x hA]; omega) p0 p1 (Int.le_refl _) (by omega) hb1 hb2 (r p (Int.le_refl _) p1) (fun p' w1 w2 => r p' (by omega) w2)
theorem TR_look {x : qT} {g : Int} (h1 : ¬ 1 ≤ g) (hx : TR x) : TR (.mulL g x) := by
  intro m h0 d B0 Bst G gm k0 k1 j0 j1 w7 bot lim W I O F A a J S Km ctx K p u β β1 H hA hSeg hS hCH hg hL hw hAS hKP a0 a1 hj0 hj1 hlim p0 p1 u0 hβ hb1 hb2 r r'
  have hc : cl (.mulL g x) = cl x + 2 := rfl
  have hcm : cm (.mulL g x) = cm x := rfl
  have hsd : sd (.mulL g x) = max 0 (sd x) := by rw [sd, if_neg h1]
  have hpz : pz (.mulL g x) = sv x := by rw [pz, if_neg h1]
  have hpq : pq (.mulL g x) = pz x := by rw [pq, if_neg h1]
  obtain ⟨w1, w2, w3⟩ := hw
  obtain ⟨nx, -, mx⟩ := cl_nn x w3
  have px := pz_nn x w3
  have svx := sv_nn x w3
  have hA' : ASK m h0 d B0 k0 k1 w7 I O A ∧ aT x = false := by
    rcases hA with q | q
    · have := (Bool.or_eq_false_iff.mp q).2
      exact absurd (of_decide_eq_false this) (by omega)
    · have := q.2
      rw [nst, if_neg h1] at this
      exact ⟨q.1, this⟩
  have hSeg' : B0 42 a = 6 ∧ B0 43 a = (if g = 0 then 1 else 2) ∧ B0 44 a = a + cl x + 2 ∧ SpA B0 S a ctx ∧ Seg B0 S Km x (a + 1) [] J ∧ B0 42 (a + cl x + 1) = 11 := by
    have h9 : (if 1 ≤ g then _ else B0 42 a = 6 ∧ B0 43 a = (if g = 0 then 1 else 2) ∧ B0 44 a = a + cl x + 2 ∧ SpA B0 S a ctx ∧ Seg B0 S Km x (a + 1) [] J ∧ B0 42 (a + cl x + 1) = 11) := hSeg
    rw [if_neg h1] at h9
    exact h9
  have hAS' : G a = some (LF (dn (B0 57 0) (tB B0) (.mulL g x)) K) ∧ (∀ pc, a < pc → pc < a + cl x + 2 → G pc = none) ∧ (∀ q, J ≤ q → q < J + cm x → ¬ gm q) := by
    have h9 : (if 1 ≤ g then _ else G a = some (LF (dn (B0 57 0) (tB B0) (.mulL g x)) K) ∧ (∀ pc, a < pc → pc < a + cl x + 2 → G pc = none) ∧ (∀ q, J ≤ q → q < J + cm x → ¬ gm q)) := hAS
    rw [if_neg h1] at h9
    exact h9
  obtain ⟨s1, s2, s3, s4, s5, s6⟩ := hSeg'
  obtain ⟨e1, e2, e3⟩ := hAS'
  have eb : a + cl (.mulL g x) = a + cl x + 2 := by omega
  rw [eb] at r
  rw [hpz]
  have hd : a + cl x + 2 - 1 = a + cl x + 1 := by omega
  have hkd : (if g = 0 then (1 : Int) else 2) = 0 ∨ (if g = 0 then (1 : Int) else 2) = 1 ∨ (if g = 0 then (1 : Int) else 2) = 2 := by split <;> omega
  refine S_ask H hA'.1 (kd := if g = 0 then 1 else 2) (Db := dn (B0 57 0) (tB B0) x) (slx := sl x) (pw := pz x) (q := cm x) (J := J) (β1 := β1) a0 (by omega) (by omega) s1 s2 hkd s3 (by rw [hd]; exact s6) hS s4 hCH hg (by omega) e1 (KP_LF (dn_Pl _ _ _) hKP) e2 e3 hj0 (by omega) px (by omega) (body_ok hx hA'.2 s5 hS (by omega) w3 a0 (by omega)) (dn_Rg _ _ _) (dn_Chg _ _ _) (sl_sv x w3) (fun c => ?_) p0 p1 hβ (by omega) r (fun p' v1 v2 => by have := r' p' v1 v2; rw [eb] at this; exact this)
  show (dn (B0 57 0) (tB B0) (.mulL g x) p c).flatMap (fun o => K o.1 (if o.1 = p then u else 0) o.2) = _
  rw [show dn (B0 57 0) (tB B0) (.mulL g x) p c = if 1 ≤ g then _ else if g = 0 then (match dn (B0 57 0) (tB B0) x p c with
    | [] => []
    | o :: _ => [(p, o.2)]) else (match dn (B0 57 0) (tB B0) x p c with
    | [] => [(p, c)]
    | _ :: _ => []) from rfl, if_neg h1]
  by_cases hg0 : g = 0
  · rw [if_pos hg0, if_pos hg0]
    cases hd : dn (B0 57 0) (tB B0) x p c with
    | nil => rw [if_neg (by decide)]; rfl
    | cons o t =>
      show K p (if p = p then u else 0) o.2 ++ [] = if (1 : Int) = 2 then [] else if (1 : Int) = 0 then K o.1 (if o.1 = p then u else 0) o.2 else K p u o.2
      rw [if_neg (show ¬ (1 : Int) = 2 by decide), if_neg (show ¬ (1 : Int) = 0 by decide), if_pos (show p = p from rfl), List.append_nil]
  · rw [if_neg hg0, if_neg hg0]
    cases hd : dn (B0 57 0) (tB B0) x p c with
    | nil =>
      rw [if_pos rfl]
      simp only [List.flatMap_cons, List.flatMap_nil, List.append_nil]
      rw [if_pos trivial]
    | cons o t => rw [if_pos rfl]; rfl
theorem TR_rnd {x : qT} {k : Int} (hg : ¬ rg k = 2) (hx : TR x) : TR (.mulR x k) := by
  intro m h0 d B0 Bst G gm k0 k1 j0 j1 w7 bot lim W I O F A a J S Km ctx K p u β β1 H hA hSeg hS hCH hgc hL hw hAS hKP a0 a1 hj0 hj1 hlim p0 p1 u0 hβ hb1 hb2 r r'
  obtain ⟨g1, g2, g3, g4, g5, g6, g7⟩ := hw
  have hc : cl (.mulR x k) = rl k * cl x + (if rh k < 0 then cl x + 4 else (rh k - rl k) * (cl x + 1)) + (if rg k = 2 then 2 else 0) := rfl
  rw [if_neg hg, Int.add_zero] at hc
  have hcm : cm (.mulR x k) = rl k * cm x + (if rh k < 0 then cm x + 1 else (rh k - rl k) * cm x) := rfl
  have hsd : sd (.mulR x k) = max 0 (sd x + 1) := rfl
  have hpz : pz (.mulR x k) = pzR (rl k) (rh k) (pz x) := by rw [pz, if_neg hg]
  have hpq : pq (.mulR x k) = rl k * pq x + (if rh k < 0 then pq x else (rh k - rl k) * pq x) := by rw [pq, if_neg hg]
  have qx := pq_nn x g7
  have hA' : aT x = false ∨ (ASK m h0 d B0 k0 k1 w7 I O A ∧ nst x) := hA.imp (fun q => (Bool.or_eq_false_iff.mp q).1) (fun w => ⟨w.1, by have := w.2; rw [nst, if_neg hg] at this; exact this⟩)
  have hR : Rp B0 S Km (fun a c j => Seg B0 S Km x a c j) (cl x) (cm x) (rl k) (rh k) (rg k) a ctx J := by
    have h9 : (if rg k = 2 then _ else Rp B0 S Km (fun a c j => Seg B0 S Km x a c j) (cl x) (cm x) (rl k) (rh k) (rg k) a ctx J) := hSeg
    rw [if_neg hg] at h9
    exact h9
  have hRA : RA (B0 57 0) G gm (dn (B0 57 0) (tB B0) x) (fun a J K => AS (B0 57 0) (tB B0) G gm x a J K) (cl x) (cm x) (rl k) (rh k) (decide (rg k = 1)) a J K := by
    have h9 : (if rg k = 2 then _ else RA (B0 57 0) G gm (dn (B0 57 0) (tB B0) x) (fun a J K => AS (B0 57 0) (tB B0) G gm x a J K) (cl x) (cm x) (rl k) (rh k) (decide (rg k = 1)) a J K) := hAS
    rw [if_neg hg] at h9
    exact h9
  rw [hc] at a1 r r'
  rw [hcm] at hj1
  rw [hpz] at hb1 hb2 ⊢
  refine RnP_eq (TR_reps hx H hA' hR hRA hS hCH hgc (by omega) g7 hKP g1 g3 a0 a1 hj0 hj1 (fun hq => ?_) p0 p1 u0 hβ hb1 hb2 r r') (fun c => ?_)
  · have h2 : pq x ≤ pq (.mulR x k) := by
      rw [hpq]
      have h3 := Int.mul_nonneg g1 qx
      by_cases hl : 1 ≤ rl k
      · have : 1 * pq x ≤ rl k * pq x := Int.mul_le_mul_of_nonneg_right hl qx
        split
        · omega
        · have := Int.mul_nonneg (show 0 ≤ rh k - rl k by omega) qx
          omega
      · split
        · omega
        · have : 1 * pq x ≤ (rh k - rl k) * pq x := Int.mul_le_mul_of_nonneg_right (by omega) qx
          omega
    omega
  · show (dn (B0 57 0) (tB B0) (.mulR x k) p c).flatMap _ = _
    rw [dn_mulR, if_neg hg]
    rfl
theorem TR_kept {x : qT} {k : Int} (hg : rg k = 2) (hx : TR x) : TR (.mulR x k) := by
  intro m h0 d B0 Bst G gm k0 k1 j0 j1 w7 bot lim W I O F A a J S Km ctx K p u β β1 H hA hSeg hS hCH hgc hL hw hAS hKP a0 a1 hj0 hj1 hlim p0 p1 u0 hβ hb1 hb2 r r'
  have hw0 := hw
  obtain ⟨g1, g2, g3, g4, g5, g6, g7⟩ := hw
  have el : rl (rc (rl k) (rh k) 0) = rl k := rc_l g1 (by omega)
  have eh : rh (rc (rl k) (rh k) 0) = rh k := rc_h g1 (by omega) (by omega) (by omega)
  have eg : rg (rc (rl k) (rh k) 0) = 0 := rc_g g1 (by omega) (by omega) (by omega)
  have hng : ¬ rg (rc (rl k) (rh k) 0) = 2 := by omega
  generalize rc (rl k) (rh k) 0 = k' at *
  have hw' : wf (.mulR x k') := ⟨by omega, by omega, by omega, by omega, by omega, by omega, g7⟩
  have hc : cl (.mulR x k) = cl (.mulR x k') + 2 := by
    show rl k * cl x + (if rh k < 0 then cl x + 4 else (rh k - rl k) * (cl x + 1)) + (if rg k = 2 then 2 else 0) = rl k' * cl x + (if rh k' < 0 then cl x + 4 else (rh k' - rl k') * (cl x + 1)) + (if rg k' = 2 then 2 else 0) + 2
    rw [el, eh, if_pos hg, if_neg hng]
    omega
  have hcm : cm (.mulR x k) = cm (.mulR x k') := by
    show rl k * cm x + (if rh k < 0 then cm x + 1 else (rh k - rl k) * cm x) = rl k' * cm x + (if rh k' < 0 then cm x + 1 else (rh k' - rl k') * cm x)
    rw [el, eh]
  have hsd : sd (.mulR x k) = sd (.mulR x k') := rfl
  have hsd0 : 0 ≤ sd (.mulR x k') := by show 0 ≤ max 0 (sd x + 1); omega
  have hsv : sv (.mulR x k) = sv (.mulR x k') := by rw [sv, sv, el, eh]
  have hsl : sl (.mulR x k) = sl (.mulR x k') := by rw [sl, sl, el, eh]
  have hpz : pz (.mulR x k) = sv (.mulR x k) := by rw [pz, if_pos hg]
  have hpq : pq (.mulR x k) = pz (.mulR x k') := by rw [pq, if_pos hg, pz, if_neg hng, el, eh]
  obtain ⟨nx, -, mx⟩ := cl_nn (.mulR x k') hw'
  have px := pz_nn (.mulR x k') hw'
  have svx := sv_nn (.mulR x k) hw0
  have hA' : ASK m h0 d B0 k0 k1 w7 I O A ∧ aT x = false := by
    rcases hA with q | q
    · have := (Bool.or_eq_false_iff.mp q).2
      exact absurd hg (of_decide_eq_false this)
    · have := q.2
      rw [nst, if_pos hg] at this
      exact ⟨q.1, this⟩
  have hAx' : aT (.mulR x k') = false := by
    show (aT x || decide (rg k' = 2)) = false
    rw [hA'.2, decide_eq_false hng]
    rfl
  have hSeg' : B0 42 a = 6 ∧ B0 43 a = 0 ∧ B0 44 a = a + cl (.mulR x k) ∧ SpA B0 S a ctx ∧ Rp B0 S Km (fun a c j => Seg B0 S Km x a c j) (cl x) (cm x) (rl k) (rh k) 0 (a + 1) [] J ∧ B0 42 (a + cl (.mulR x k) - 1) = 11 := by
    have h9 : (if rg k = 2 then B0 42 a = 6 ∧ B0 43 a = 0 ∧ B0 44 a = a + cl (.mulR x k) ∧ SpA B0 S a ctx ∧ Rp B0 S Km (fun a c j => Seg B0 S Km x a c j) (cl x) (cm x) (rl k) (rh k) 0 (a + 1) [] J ∧ B0 42 (a + cl (.mulR x k) - 1) = 11 else _) := hSeg
    rw [if_pos hg] at h9
    exact h9
  have hAS' : G a = some (LF (dn (B0 57 0) (tB B0) (.mulR x k)) K) ∧ (∀ pc, a < pc → pc < a + cl (.mulR x k) → G pc = none) ∧ (∀ q, J ≤ q → q < J + cm (.mulR x k) → ¬ gm q) := by
    have h9 : (if rg k = 2 then G a = some (LF (dn (B0 57 0) (tB B0) (.mulR x k)) K) ∧ (∀ pc, a < pc → pc < a + cl (.mulR x k) → G pc = none) ∧ (∀ q, J ≤ q → q < J + cm (.mulR x k) → ¬ gm q) else _) := hAS
    rw [if_pos hg] at h9
    exact h9
  obtain ⟨s1, s2, s3, s4, s5, s6⟩ := hSeg'
  obtain ⟨e1, e2, e3⟩ := hAS'
  have s5' : Seg B0 S Km (.mulR x k') (a + 1) [] J := by
    show (if rg k' = 2 then _ else Rp B0 S Km (fun a c j => Seg B0 S Km x a c j) (cl x) (cm x) (rl k') (rh k') (rg k') (a + 1) [] J)
    rw [if_neg hng, el, eh, eg]
    exact s5
  have ey : a + cl (.mulR x k) = a + cl (.mulR x k') + 2 := by omega
  have hbody := body_ok (m := m) (h0 := h0) (d := d) (TR_rnd hng hx) hAx' s5' hS (by omega) hw' a0 (by omega)
  rw [← ey, ← hcm] at hbody
  rw [hpz]
  refine S_ask H hA'.1 (kd := 0) (Db := dn (B0 57 0) (tB B0) (.mulR x k')) (slx := sl (.mulR x k)) (pw := pz (.mulR x k')) (q := cm (.mulR x k)) (J := J) (β1 := β1) a0 (by omega) a1 s1 s2 (Or.inl rfl) s3 s6 hS s4 hCH hgc (by omega) e1 (KP_LF (dn_Pl _ _ _) hKP) e2 e3 hj0 hj1 px (by omega) hbody (dn_Rg _ _ _) (by rw [hsl]; exact dn_Chg _ _ _) (by rw [hsl, hsv]; exact sl_sv _ hw') (fun c => ?_) p0 p1 hβ (by omega) r r'
  show (dn (B0 57 0) (tB B0) (.mulR x k) p c).flatMap (fun o => K o.1 (if o.1 = p then u else 0) o.2) = _
  have hdn : dn (B0 57 0) (tB B0) (.mulR x k) p c = (dn (B0 57 0) (tB B0) (.mulR x k') p c).take 1 := by
    rw [dn_mulR, dn_mulR, if_pos hg, if_neg hng, el, eh, eg]
    rfl
  rw [hdn]
  cases hd : dn (B0 57 0) (tB B0) (.mulR x k') p c with
  | nil => rw [if_neg (by decide)]; rfl
  | cons o t =>
    show K o.1 (if o.1 = p then u else 0) o.2 ++ [] = if (0 : Int) = 2 then [] else if (0 : Int) = 0 then K o.1 (if o.1 = p then u else 0) o.2 else K p u o.2
    rw [if_neg (show ¬ (0 : Int) = 2 by decide), if_pos (show (0 : Int) = 0 from rfl), List.append_nil]
theorem TR_all : ∀ e : qT, TR e := by
  intro e
  induction e with
  | num k => exact TR_num k
  | var s => exact TR_var s
  | add a b h1 h2 => exact TR_add h1 h2
  | sub a b h1 h2 => exact TR_sub h1 h2
  | neg a h => exact TR_neg h
  | mulL k a h => exact (Classical.em (1 ≤ k)).elim (fun q => TR_grp q h) (fun q => TR_look q h)
  | mulR a k h => exact (Classical.em (rg k = 2)).elim (fun q => TR_kept q h) (fun q => TR_rnd q h)
