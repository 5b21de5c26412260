/-! THE REFERENCE'S SEARCH: rounds -/
theorem star_list {n : Int} {D : Int → qCp → qWs} {K : qK} {lz : Bool} {l h p u : Int} {c : qCp} (hD : Rg n D) (hh : h < 0) (h0 : 0 ≤ p) (h1 : p ≤ n) : LF (mor n lz l h D) K p u c = if lz = true then K p u c ++ (D p c).flatMap (fun o => if o.1 = p then [] else LF (mor n lz l h D) K o.1 0 o.2) else (D p c).flatMap (fun o => if o.1 = p then [] else LF (mor n lz l h D) K o.1 0 o.2) ++ K p u c := by
  have hm : ∀ p c, mor n lz l h D p c = stw lz D (n - p).toNat p c := fun p c => by unfold mor; rw [if_pos hh]
  have hX : ((D p c).flatMap (fun o => if o.1 = p then [] else stw lz D (n - o.1).toNat o.1 o.2)).flatMap (fun o => K o.1 (if o.1 = p then u else 0) o.2) = (D p c).flatMap (fun o => if o.1 = p then [] else LF (mor n lz l h D) K o.1 0 o.2) := by
    rw [List.flatMap_assoc]
    apply fm_eq
    intro o ho
    have hr := hD p c h0 h1 o ho
    by_cases e : o.1 = p
    · rw [if_pos e, if_pos e]; rfl
    · rw [if_neg e, if_neg e]
      unfold LF
      rw [hm]
      apply fm_eq
      intro o' ho'
      have hr' := Rg_stw hD lz _ o.1 o.2 (by omega) hr.2 o' ho'
      rw [if_neg (by omega), ite_self]
  rw [← hX]
  show (mor n lz l h D p c).flatMap (fun o => K o.1 (if o.1 = p then u else 0) o.2) = _
  rw [hm, stw_eq hD lz h0 h1]
  cases lz with
  | true =>
    rw [if_pos rfl, if_pos rfl, List.flatMap_cons]
    show K p (if p = p then u else 0) c ++ _ = _
    rw [if_pos rfl]
  | false =>
    rw [if_neg (by decide), if_neg (by decide), List.flatMap_append]
    congr 1
    simp only [List.flatMap_cons, List.flatMap_nil, List.append_nil]
    rw [if_pos trivial]
theorem opt_list {n : Int} {D : Int → qCp → qWs} {K : qK} {lz : Bool} {p u : Int} {c : qCp} {k : Nat} (hD : Rg n D) (h0 : 0 ≤ p) (h1 : p ≤ n) : LF (opt lz D (k + 1)) K p u c = if lz = true then K p u c ++ LF D (LF (opt lz D k) K) p u c else LF D (LF (opt lz D k) K) p u c ++ K p u c := by
  have hX : ((D p c).flatMap (fun o => opt lz D k o.1 o.2)).flatMap (fun o => K o.1 (if o.1 = p then u else 0) o.2) = LF D (LF (opt lz D k) K) p u c := LF_fm hD (Rg_opt hD lz k) h0 h1
  rw [← hX]
  show (if lz = true then (p, c) :: (D p c).flatMap (fun o => opt lz D k o.1 o.2) else (D p c).flatMap (fun o => opt lz D k o.1 o.2) ++ [(p, c)]).flatMap (fun o => K o.1 (if o.1 = p then u else 0) o.2) = _
  cases lz with
  | true =>
    rw [if_pos rfl, if_pos rfl, List.flatMap_cons]
    show K p (if p = p then u else 0) c ++ _ = _
    rw [if_pos rfl]
  | false =>
    rw [if_neg (by decide), if_neg (by decide), List.flatMap_append]
    congr 1
    simp only [List.flatMap_cons, List.flatMap_nil, List.append_nil]
    rw [if_pos trivial]
theorem LF_one {D : Int → qCp → qWs} {K : qK} {p u : Int} {c : qCp} (h : D p c = [(p, c)]) : LF D K p u c = K p u c := by
  unfold LF
  rw [h]
  simp only [List.flatMap_cons, List.flatMap_nil, List.append_nil]
  rw [if_pos trivial]
set_option maxHeartbeats 8000000 in
theorem TR_star {x : qT} (hx : TR x) {m : Nat} {h0 : qH} {d : Nat} {B0 Bst : qB} {G : qG} {gm : Int → Prop} {k0 k1 j0 j1 : Int} {w7 : Prop} {bot lim W : Int} {I O F A : qB → Prop} {s q S Km l h g β1 : Int} {ctx : List Int} {K : qK} (H : HG m h0 d B0 G k0 k1 j0 j1 w7 bot lim W I O F A) (hA : aT x = false ∨ (ASK m h0 d B0 k0 k1 w7 I O A ∧ nst x)) (hh : h < 0)
    (h42 : B0 42 s = 1) (hSp : SpA B0 S s ctx) (h43 : B0 43 s = (if g = 1 then s + cl x + 4 else s + 1)) (h44 : B0 44 s = (if g = 1 then s + 1 else s + cl x + 4)) (m42 : B0 42 (s + 1) = 4) (m43 : B0 43 (s + 1) = q) (hnq : ¬ q ∈ ctx) (h53 : B0 53 q = ctxH ctx) (hSeg : Seg B0 S Km x (s + 2) (q :: ctx) (q + 1)) (v42 : B0 42 (s + cl x + 2) = 5) (v43 : B0 43 (s + cl x + 2) = q) (w42 : B0 42 (s + cl x + 3) = 2) (w43 : B0 43 (s + cl x + 3) = s)
    (hS : S ≤ 2000) (hCH : CH B0 ctx) (hg : ∀ r ∈ ctx, gm r ∧ r < q) (hL : ctx.length + 1 + sd x ≤ 10) (hw : wf x) (hGs : G s = some (LF (mor (B0 57 0) (decide (g = 1)) l h (dn (B0 57 0) (tB B0) x)) K)) (hgm : gm q) (hAS : AS (B0 57 0) (tB B0) G gm x (s + 2) (q + 1) (fun p u c => if u = 0 then LF (mor (B0 57 0) (decide (g = 1)) l h (dn (B0 57 0) (tB B0) x)) K p 0 c else []))
    (hKP : KP K) (s0 : 0 ≤ s) (s1 : s + cl x + 4 < B0 46 0 ∧ B0 46 0 ≤ 5991) (q0 : j0 ≤ q) (q1 : q + cm x + 1 ≤ j1) (hlim : lim + 2002 * pq x ≤ 2499000) (hb1 : pz x + 1 ≤ β1) (hb2 : β1 + pz x + 2 ≤ W) : ∀ (N : Nat) (p u β β' : Int), B0 57 0 - p ≤ N → 0 ≤ p → p ≤ B0 57 0 → 0 ≤ u → 0 ≤ β → β + 1 ≤ β' → pz x + 2 ≤ β' → RnP B0 Bst G gm k0 k1 j0 j1 w7 bot lim W I O F p u (s + cl x + 4) ctx K β → (∀ p', p < p' → p' ≤ B0 57 0 → RnP B0 Bst G gm k0 k1 j0 j1 w7 bot lim W I O F p' 0 (s + cl x + 4) ctx K β1) → RnP B0 Bst G gm k0 k1 j0 j1 w7 bot lim W I O F p u s ctx (LF (mor (B0 57 0) (decide (g = 1)) l h (dn (B0 57 0) (tB B0) x)) K) β' := by
  obtain ⟨nx, -, mx⟩ := cl_nn x hw
  have px := pz_nn x hw
  have hD : Rg (B0 57 0) (dn (B0 57 0) (tB B0) x) := dn_Rg _ _ _
  have hq0 := H.2.2.2.2.2.1
  have hq1 := H.2.2.2.2.2.2.1
  have hKM : KP (LF (mor (B0 57 0) (decide (g = 1)) l h (dn (B0 57 0) (tB B0) x)) K) := KP_LF (Pl_mor (dn_Pl _ _ _) _ _ _ _) hKP
  intro N
  induction N with
  | zero =>
    intro p u β β' hN p0 p1 u0 b0 b1 b2 r r'
    have hp : p = B0 57 0 := by omega
    -- the body: a round that cannot move
    have rb := hx m h0 d B0 Bst G gm k0 k1 j0 j1 w7 bot lim W I O F A (s + 2) (q + 1) S Km (q :: ctx) (fun p u c => if u = 0 then LF (mor (B0 57 0) (decide (g = 1)) l h (dn (B0 57 0) (tB B0) x)) K p 0 c else []) p (u + 1) 0 (β1 + 2) H hA hSeg hS ⟨by omega, by omega, h53, hCH⟩ (fun r hr => by
      rcases List.mem_cons.mp hr with e | e
      · subst e; exact ⟨hgm, by omega⟩
      · exact ⟨(hg r e).1, by have := (hg r e).2; omega⟩) (by rw [List.length_cons]; omega) hw hAS (fun p u c c' => by
      by_cases e : u = 0
      · simp only [if_pos e]; exact hKM p 0 c c'
      · simp only [if_neg e]) (by omega) (by omega) (by omega) (by omega) hlim p0 p1 (by omega) (Int.le_refl _) (by omega) (by omega) (S_movedF H (by omega) (by omega) (by rw [show s + 2 + cl x = s + cl x + 2 by omega]; exact v42) (by rw [show s + 2 + cl x = s + cl x + 2 by omega]; exact v43) q0 (by omega) p0 p1 (Int.le_refl _) (by omega) (fun c => if_neg (by omega))) (fun p' w1 w2 => by omega)
    have rm := S_mark H (K := LF (dn (B0 57 0) (tB B0) x) (fun p u c => if u = 0 then LF (mor (B0 57 0) (decide (g = 1)) l h (dn (B0 57 0) (tB B0) x)) K p 0 c else [])) (u := u) (p := p) (β := 0 + pz x) (ctx := ctx) (a := s + 1) (s := q) (by omega) (by omega) m42 m43 q0 (by omega) hnq p0 p1 (by omega) (by rw [show s + 1 + 1 = s + 2 by omega]; exact rb)
    have eKB : ∀ c, (dn (B0 57 0) (tB B0) x p c).flatMap (fun o => if o.1 = p then [] else LF (mor (B0 57 0) (decide (g = 1)) l h (dn (B0 57 0) (tB B0) x)) K o.1 0 o.2) = LF (dn (B0 57 0) (tB B0) x) (fun p u c => if u = 0 then LF (mor (B0 57 0) (decide (g = 1)) l h (dn (B0 57 0) (tB B0) x)) K p 0 c else []) p (u + 1) c := by
      intro c
      show _ = (dn (B0 57 0) (tB B0) x p c).flatMap (fun o => if (if o.1 = p then u + 1 else 0) = 0 then LF (mor (B0 57 0) (decide (g = 1)) l h (dn (B0 57 0) (tB B0) x)) K o.1 0 o.2 else [])
      apply fm_eq
      intro o ho
      by_cases e : o.1 = p
      · rw [if_pos e, if_pos e, if_neg (by omega)]
      · rw [if_neg e, if_neg e, if_pos rfl]
    by_cases hg1 : g = 1
    · rw [if_pos hg1] at h43 h44
      exact S_split H s0 (by omega) h42 h43 h44 (by omega) (by omega) (by omega) hS hSp hCH (fun r hr => (hg r hr).1) hGs hKM (fun c => by rw [star_list hD hh p0 p1, if_pos (decide_eq_true hg1), eKB c]) p0 p1 b0 (by omega) (by omega) r rm
    · rw [if_neg hg1] at h43 h44
      exact S_split H s0 (by omega) h42 h43 h44 (by omega) (by omega) (by omega) hS hSp hCH (fun r hr => (hg r hr).1) hGs hKM (fun c => by rw [star_list hD hh p0 p1, if_neg (by rw [decide_eq_false hg1]; decide), eKB c]) p0 p1 (by omega) (by omega) (by omega) rm r
  | succ N ih =>
    intro p u β β' hN p0 p1 u0 b0 b1 b2 r r'
    have rb := hx m h0 d B0 Bst G gm k0 k1 j0 j1 w7 bot lim W I O F A (s + 2) (q + 1) S Km (q :: ctx) (fun p u c => if u = 0 then LF (mor (B0 57 0) (decide (g = 1)) l h (dn (B0 57 0) (tB B0) x)) K p 0 c else []) p (u + 1) 0 (β1 + 2) H hA hSeg hS ⟨by omega, by omega, h53, hCH⟩ (fun r hr => by
      rcases List.mem_cons.mp hr with e | e
      · subst e; exact ⟨hgm, by omega⟩
      · exact ⟨(hg r e).1, by have := (hg r e).2; omega⟩) (by rw [List.length_cons]; omega) hw hAS (fun p u c c' => by
      by_cases e : u = 0
      · simp only [if_pos e]; exact hKM p 0 c c'
      · simp only [if_neg e]) (by omega) (by omega) (by omega) (by omega) hlim p0 p1 (by omega) (Int.le_refl _) (by omega) (by omega) (S_movedF H (by omega) (by omega) (by rw [show s + 2 + cl x = s + cl x + 2 by omega]; exact v42) (by rw [show s + 2 + cl x = s + cl x + 2 by omega]; exact v43) q0 (by omega) p0 p1 (Int.le_refl _) (by omega) (fun c => if_neg (by omega))) (fun p' w1 w2 => RnP_le (S_moved H (a := s + 2 + cl x) (by omega) (by omega) (by rw [show s + 2 + cl x = s + cl x + 2 by omega]; exact v42) (by rw [show s + 2 + cl x = s + cl x + 2 by omega]; exact v43) (by rw [show s + 2 + cl x + 1 = s + cl x + 3 by omega]; exact w42) (by rw [show s + 2 + cl x + 1 = s + cl x + 3 by omega]; exact w43) s0 q0 (by omega) hnq (by omega) w2 (by omega) (fun c => if_pos rfl) (ih p' 0 β1 (β1 + 1) (by omega) (by omega) w2 (Int.le_refl _) (by omega) (Int.le_refl _) (by omega) (r' p' w1 w2) (fun p'' v1 v2 => r' p'' (by omega) v2))) (by omega))
    have rm := S_mark H (K := LF (dn (B0 57 0) (tB B0) x) (fun p u c => if u = 0 then LF (mor (B0 57 0) (decide (g = 1)) l h (dn (B0 57 0) (tB B0) x)) K p 0 c else [])) (u := u) (p := p) (β := 0 + pz x) (ctx := ctx) (a := s + 1) (s := q) (by omega) (by omega) m42 m43 q0 (by omega) hnq p0 p1 (by omega) (by rw [show s + 1 + 1 = s + 2 by omega]; exact rb)
    have eKB : ∀ c, (dn (B0 57 0) (tB B0) x p c).flatMap (fun o => if o.1 = p then [] else LF (mor (B0 57 0) (decide (g = 1)) l h (dn (B0 57 0) (tB B0) x)) K o.1 0 o.2) = LF (dn (B0 57 0) (tB B0) x) (fun p u c => if u = 0 then LF (mor (B0 57 0) (decide (g = 1)) l h (dn (B0 57 0) (tB B0) x)) K p 0 c else []) p (u + 1) c := by
      intro c
      show _ = (dn (B0 57 0) (tB B0) x p c).flatMap (fun o => if (if o.1 = p then u + 1 else 0) = 0 then LF (mor (B0 57 0) (decide (g = 1)) l h (dn (B0 57 0) (tB B0) x)) K o.1 0 o.2 else [])
      apply fm_eq
      intro o ho
      by_cases e : o.1 = p
      · rw [if_pos e, if_pos e, if_neg (by omega)]
      · rw [if_neg e, if_neg e, if_pos rfl]
    by_cases hg1 : g = 1
    · rw [if_pos hg1] at h43 h44
      exact S_split H s0 (by omega) h42 h43 h44 (by omega) (by omega) (by omega) hS hSp hCH (fun r hr => (hg r hr).1) hGs hKM (fun c => by rw [star_list hD hh p0 p1, if_pos (decide_eq_true hg1), eKB c]) p0 p1 b0 (by omega) (by omega) r rm
    · rw [if_neg hg1] at h43 h44
      exact S_split H s0 (by omega) h42 h43 h44 (by omega) (by omega) (by omega) hS hSp hCH (fun r hr => (hg r hr).1) hGs hKM (fun c => by rw [star_list hD hh p0 p1, if_neg (by rw [decide_eq_false hg1]; decide), eKB c]) p0 p1 (by omega) (by omega) (by omega) rm r

/-- rounds that may be: k of them are left -/
theorem TR_opts {x : qT} (hx : TR x) {m : Nat} {h0 : qH} {d : Nat} {B0 Bst : qB} {G : qG} {gm : Int → Prop} {k0 k1 j0 j1 : Int} {w7 : Prop} {bot lim W : Int} {I O F A : qB → Prop} {s J S Km r g β1 : Int} {ctx : List Int} {K : qK} (H : HG m h0 d B0 G k0 k1 j0 j1 w7 bot lim W I O F A) (hA : aT x = false ∨ (ASK m h0 d B0 k0 k1 w7 I O A ∧ nst x))
    (hR : ∀ j, 0 ≤ j → j < r → B0 42 (s + j * (cl x + 1)) = 1 ∧ SpA B0 S (s + j * (cl x + 1)) ctx ∧ B0 43 (s + j * (cl x + 1)) = (if g = 1 then s + r * (cl x + 1) else s + j * (cl x + 1) + 1) ∧ B0 44 (s + j * (cl x + 1)) = (if g = 1 then s + j * (cl x + 1) + 1 else s + r * (cl x + 1)) ∧ Seg B0 S Km x (s + j * (cl x + 1) + 1) ctx (J + j * cm x))
    (hRA : ∀ j, 0 ≤ j → j < r → G (s + j * (cl x + 1)) = some (LF (opt (decide (g = 1)) (dn (B0 57 0) (tB B0) x) (r - j).toNat) K) ∧ AS (B0 57 0) (tB B0) G gm x (s + j * (cl x + 1) + 1) (J + j * cm x) (LF (opt (decide (g = 1)) (dn (B0 57 0) (tB B0) x) (r - j - 1).toNat) K))
    (hS : S ≤ 2000) (hCH : CH B0 ctx) (hg : ∀ q ∈ ctx, gm q ∧ q < J) (hL : ctx.length + sd x ≤ 10) (hw : wf x) (hKP : KP K) (s0 : 0 ≤ s) (s1 : s + r * (cl x + 1) < B0 46 0 ∧ B0 46 0 ≤ 5991) (q0 : j0 ≤ J) (q1 : J + r * cm x ≤ j1) (hlim : 0 < r → lim + 2002 * pq x ≤ 2499000) (hb1 : 0 < r → pz x ≤ β1) (hb2 : β1 + r * (pz x + 1) ≤ W) : ∀ (k : Nat) (j p u β : Int), j + k = r → 0 ≤ j → 0 ≤ p → p ≤ B0 57 0 → 0 ≤ u → 0 ≤ β → RnP B0 Bst G gm k0 k1 j0 j1 w7 bot lim W I O F p u (s + r * (cl x + 1)) ctx K β → (∀ p', p < p' → p' ≤ B0 57 0 → RnP B0 Bst G gm k0 k1 j0 j1 w7 bot lim W I O F p' 0 (s + r * (cl x + 1)) ctx K β1) → RnP B0 Bst G gm k0 k1 j0 j1 w7 bot lim W I O F p u (s + j * (cl x + 1)) ctx (LF (opt (decide (g = 1)) (dn (B0 57 0) (tB B0) x) k) K) (β + k * (pz x + 1)) := by
  obtain ⟨nx, -, mx⟩ := cl_nn x hw
  have px := pz_nn x hw
  have hD : Rg (B0 57 0) (dn (B0 57 0) (tB B0) x) := dn_Rg _ _ _
  intro k
  induction k with
  | zero =>
    intro j p u β hj j0' p0 p1 u0 b0 r1 r2
    have hj' : j = r := by omega
    subst hj'
    refine RnP_eq (RnP_le r1 (by simp)) (fun c => LF_one rfl)
  | succ k ih =>
    intro j p u β hj j0' p0 p1 u0 b0 r1 r2
    have hjr : j < r := by omega
    have hb1' := hb1 (by omega)
    obtain ⟨e1, e2, e3, e4, e5⟩ := hR j j0' hjr
    obtain ⟨f1, f2⟩ := hRA j j0' hjr
    have mi := mul_in j0' hjr (show 0 ≤ cl x + 1 by omega)
    have mm := mul_in j0' hjr mx
    have en : (r - j).toNat = k + 1 := by omega
    have en2 : (r - j - 1).toNat = k := by omega
    rw [en] at f1
    rw [en2] at f2
    have ej : (j + 1) * (cl x + 1) = j * (cl x + 1) + (cl x + 1) := by rw [Int.add_mul, Int.one_mul]
    have ek : ((k + 1 : Nat) : Int) * (pz x + 1) = (k : Int) * (pz x + 1) + (pz x + 1) := by rw [Int.natCast_add, Int.add_mul]; simp
    have k0n : 0 ≤ (k : Int) * (pz x + 1) := Int.mul_nonneg (by omega) (by omega)
    have kr : ((k + 1 : Nat) : Int) * (pz x + 1) ≤ r * (pz x + 1) := Int.mul_le_mul_of_nonneg_right (by omega) (by omega)
    rw [ek] at kr ⊢
    have hKo : KP (LF (opt (decide (g = 1)) (dn (B0 57 0) (tB B0) x) k) K) := KP_LF (Pl_opt (dn_Pl _ _ _) _ _) hKP
    have eb : s + j * (cl x + 1) + 1 + cl x = s + (j + 1) * (cl x + 1) := by omega
    have rb := hx m h0 d B0 Bst G gm k0 k1 j0 j1 w7 bot lim W I O F A (s + j * (cl x + 1) + 1) (J + j * cm x) S Km ctx (LF (opt (decide (g = 1)) (dn (B0 57 0) (tB B0) x) k) K) p u (β + k * (pz x + 1)) (β1 + k * (pz x + 1)) H hA e5 hS hCH (fun q hq => ⟨(hg q hq).1, by have := (hg q hq).2; omega⟩) hL hw f2 hKo (by omega) (by omega) (by omega) (by omega) (hlim (by omega)) p0 p1 u0 (by omega) (by omega) (by omega) (by rw [eb]; exact ih (j + 1) p u β (by omega) (by omega) p0 p1 u0 b0 r1 r2) (fun p' w1 w2 => by rw [eb]; exact ih (j + 1) p' 0 β1 (by omega) (by omega) (by omega) w2 (Int.le_refl _) (by omega) (r2 p' w1 w2) (fun p'' v1 v2 => r2 p'' (by omega) v2))
    have tt : s + j * (cl x + 1) + (cl x + 1) ≤ s + r * (cl x + 1) := by omega
    have t0' : 0 ≤ s + j * (cl x + 1) := by omega
    generalize s + j * (cl x + 1) = t at *
    generalize s + r * (cl x + 1) = t' at *
    by_cases hg1 : g = 1
    · rw [if_pos hg1] at e3 e4
      exact S_split H (by omega) (by omega) e1 e3 e4 (by omega) (by omega) (by omega) hS e2 hCH (fun q hq => (hg q hq).1) f1 (KP_LF (Pl_opt (dn_Pl _ _ _) _ _) hKP) (fun c => by rw [opt_list hD p0 p1, if_pos (decide_eq_true hg1)]) p0 p1 b0 (by omega) (by omega) r1 rb
    · rw [if_neg hg1] at e3 e4
      exact S_split H (by omega) (by omega) e1 e3 e4 (by omega) (by omega) (by omega) hS e2 hCH (fun q hq => (hg q hq).1) f1 (KP_LF (Pl_opt (dn_Pl _ _ _) _ _) hKP) (fun c => by rw [opt_list hD p0 p1, if_neg (by rw [decide_eq_false hg1]; decide)]) p0 p1 (by omega) (by omega) (by omega) rb r1
/-- all rounds -/
theorem TR_reps {x : qT} (hx : TR x) {m : Nat} {h0 : qH} {d : Nat} {B0 Bst : qB} {G : qG} {gm : Int → Prop} {k0 k1 j0 j1 : Int} {w7 : Prop} {bot lim W : Int} {I O F A : qB → Prop} {a J S Km l h g p u β β1 : Int} {ctx : List Int} {K : qK} (H : HG m h0 d B0 G k0 k1 j0 j1 w7 bot lim W I O F A) (hA : aT x = false ∨ (ASK m h0 d B0 k0 k1 w7 I O A ∧ nst x))
    (hR : Rp B0 S Km (fun a c j => Seg B0 S Km x a c j) (cl x) (cm x) l h g a ctx J) (hRA : RA (B0 57 0) G gm (dn (B0 57 0) (tB B0) x) (fun a J K => AS (B0 57 0) (tB B0) G gm x a J K) (cl x) (cm x) l h (decide (g = 1)) a J K)
    (hS : S ≤ 2000) (hCH : CH B0 ctx) (hg : ∀ q ∈ ctx, gm q ∧ q < J) (hL : ctx.length + 1 + sd x ≤ 10) (hw : wf x) (hKP : KP K) (l0 : 0 ≤ l) (hh : h = -1 ∨ l ≤ h) (a0 : 0 ≤ a) (a1 : a + (l * cl x + (if h < 0 then cl x + 4 else (h - l) * (cl x + 1))) < B0 46 0 ∧ B0 46 0 ≤ 5991) (q0 : j0 ≤ J) (q1 : J + (l * cm x + (if h < 0 then cm x + 1 else (h - l) * cm x)) ≤ j1) (hlim : (0 < l ∨ h < 0 ∨ l < h) → lim + 2002 * pq x ≤ 2499000) (p0 : 0 ≤ p) (p1 : p ≤ B0 57 0) (u0 : 0 ≤ u) (b0 : 0 ≤ β) (hb1 : pzR l h (pz x) ≤ β1) (hb2 : β1 + pzR l h (pz x) ≤ W)
    (r : RnP B0 Bst G gm k0 k1 j0 j1 w7 bot lim W I O F p u (a + (l * cl x + (if h < 0 then cl x + 4 else (h - l) * (cl x + 1)))) ctx K β) (r' : ∀ p', p < p' → p' ≤ B0 57 0 → RnP B0 Bst G gm k0 k1 j0 j1 w7 bot lim W I O F p' 0 (a + (l * cl x + (if h < 0 then cl x + 4 else (h - l) * (cl x + 1)))) ctx K β1) : RnP B0 Bst G gm k0 k1 j0 j1 w7 bot lim W I O F p u a ctx (LF (fun p c => (itr (dn (B0 57 0) (tB B0) x) l.toNat p c).flatMap (fun o => mor (B0 57 0) (decide (g = 1)) l h (dn (B0 57 0) (tB B0) x) o.1 o.2)) K) (β + pzR l h (pz x)) := by
  obtain ⟨nx, -, mx⟩ := cl_nn x hw
  have px := pz_nn x hw
  have hD : Rg (B0 57 0) (dn (B0 57 0) (tB B0) x) := dn_Rg _ _ _
  have lc := Int.mul_nonneg l0 nx
  have lm := Int.mul_nonneg l0 mx
  have lp := Int.mul_nonneg l0 px
  obtain ⟨R1, R2⟩ := hR
  obtain ⟨A1, A2⟩ := hRA
  have hx0 : 0 ≤ (if h < 0 then pz x + 2 else (h - l) * (pz x + 1)) := by
    split
    · omega
    · exact Int.mul_nonneg (by omega) (by omega)
  have hpzR : pzR l h (pz x) = l * pz x + (if h < 0 then pz x + 2 else (h - l) * (pz x + 1)) := rfl
  have hKM : KP (LF (mor (B0 57 0) (decide (g = 1)) l h (dn (B0 57 0) (tB B0) x)) K) := KP_LF (Pl_mor (dn_Pl _ _ _) _ _ _ _) hKP
  -- the rounds beyond the least
  have more : ∀ p' u' β', p ≤ p' → p' ≤ B0 57 0 → 0 ≤ u' → 0 ≤ β' → RnP B0 Bst G gm k0 k1 j0 j1 w7 bot lim W I O F p' u' (a + (l * cl x + (if h < 0 then cl x + 4 else (h - l) * (cl x + 1)))) ctx K β' → RnP B0 Bst G gm k0 k1 j0 j1 w7 bot lim W I O F p' u' (a + l * cl x) ctx (LF (mor (B0 57 0) (decide (g = 1)) l h (dn (B0 57 0) (tB B0) x)) K) (β' + (if h < 0 then pz x + 2 else (h - l) * (pz x + 1))) := by
    intro p' u' β' w0 w1 w2 w3 rr
    by_cases hn : h < 0
    · rw [if_pos hn] at R2 A2 hpzR a1 q1 rr ⊢
      obtain ⟨v1, v2, v3, v4, v5, v6, v7, v8, v9, v10, v11, v12, v13, v14⟩ := R2
      rw [← v8.2] at v10 A2
      have rr2 : RnP B0 Bst G gm k0 k1 j0 j1 w7 bot lim W I O F p' u' (a + l * cl x + cl x + 4) ctx K β' := by rw [show a + l * cl x + cl x + 4 = a + (l * cl x + (cl x + 4)) by omega]; exact rr
      have hq := v8.2
      generalize hmk : B0 43 (a + l * cl x + 1) = q at *
      exact TR_star hx H hA hn v1 v2 v3 v4 v5 hmk v8.1 v9 v10 v11 v12 v13 v14 hS hCH (fun r hr => ⟨(hg r hr).1, by have := (hg r hr).2; omega⟩) hL hw A2.1 A2.2.1 A2.2.2 hKP (by omega) (by omega) (by omega) (by omega) (hlim (by omega)) (β1 := β1) (by omega) (by omega) (B0 57 0 - p').toNat p' u' β' (β' + (pz x + 2)) (by omega) (by omega) w1 w2 w3 (by omega) (by omega) rr2 (fun p'' v1 v2 => by
        have := r' p'' (by omega) v2
        rw [if_pos hn, show a + (l * cl x + (cl x + 4)) = a + l * cl x + cl x + 4 by omega] at this
        exact this)
    · rw [if_neg hn] at R2 A2 hpzR a1 q1 rr ⊢
      have hr0 : 0 ≤ h - l := by omega
      have hm := Int.mul_nonneg hr0 mx
      have hp := Int.mul_nonneg hr0 (show 0 ≤ pz x + 1 by omega)
      have hcn := Int.mul_nonneg hr0 (show 0 ≤ cl x + 1 by omega)
      have er : (((h - l).toNat : Nat) : Int) = h - l := by omega
      have eM : ∀ p c, mor (B0 57 0) (decide (g = 1)) l h (dn (B0 57 0) (tB B0) x) p c = opt (decide (g = 1)) (dn (B0 57 0) (tB B0) x) (h - l).toNat p c := fun p c => by unfold mor; rw [if_neg hn]
      have rr2 : RnP B0 Bst G gm k0 k1 j0 j1 w7 bot lim W I O F p' u' (a + l * cl x + (h - l) * (cl x + 1)) ctx K β' := by rw [Int.add_assoc]; exact rr
      have h1 := TR_opts hx H hA (s := a + l * cl x) (J := J + l * cm x) (r := h - l) (g := g) (K := K) (ctx := ctx) (β1 := β1) R2 A2 hS hCH (fun q hq => ⟨(hg q hq).1, by have := (hg q hq).2; omega⟩) (by omega) hw hKP (by omega) (by omega) (by omega) (by omega) (fun hr => hlim (by omega)) (fun hr => by
        have : 1 * (pz x + 1) ≤ (h - l) * (pz x + 1) := Int.mul_le_mul_of_nonneg_right (by omega) (by omega)
        omega) (by omega) (h - l).toNat 0 p' u' β' (by omega) (Int.le_refl _) (by omega) w1 w2 w3 rr2 (fun p'' v1 v2 => by
        have := r' p'' (by omega) v2
        rw [if_neg hn, ← Int.add_assoc] at this
        exact this)
      rw [Int.zero_mul, Int.add_zero, er] at h1
      refine RnP_eq h1 (fun c => ?_)
      unfold LF
      rw [eM]
  have cop : ∀ (k : Nat) (i p' u' β' : Int), i + k = l → 0 ≤ i → p ≤ p' → p' ≤ B0 57 0 → 0 ≤ u' → 0 ≤ β' → RnP B0 Bst G gm k0 k1 j0 j1 w7 bot lim W I O F p' u' (a + (l * cl x + (if h < 0 then cl x + 4 else (h - l) * (cl x + 1)))) ctx K β' → RnP B0 Bst G gm k0 k1 j0 j1 w7 bot lim W I O F p' u' (a + i * cl x) ctx (LF (itr (dn (B0 57 0) (tB B0) x) k) (LF (mor (B0 57 0) (decide (g = 1)) l h (dn (B0 57 0) (tB B0) x)) K)) (β' + (if h < 0 then pz x + 2 else (h - l) * (pz x + 1)) + k * pz x) := by
    intro k
    induction k with
    | zero =>
      intro i p' u' β' hi i0 w0 w1 w2 w3 rr
      have hi' : i = l := by omega
      subst hi'
      exact RnP_eq (RnP_le (more p' u' β' w0 w1 w2 w3 rr) (by simp)) (fun c => LF_one rfl)
    | succ k ih =>
      intro i p' u' β' hi i0 w0 w1 w2 w3 rr
      have hil : i < l := by omega
      have mi := mul_in i0 hil nx
      have mm := mul_in i0 hil mx
      have en : (l - 1 - i).toNat = k := by omega
      have f1 := A1 i i0 hil
      rw [en] at f1
      have ek : ((k + 1 : Nat) : Int) * pz x = (k : Int) * pz x + pz x := by rw [Int.natCast_add, Int.add_mul]; simp
      have k0n : 0 ≤ (k : Int) * pz x := Int.mul_nonneg (by omega) px
      have kr : ((k + 1 : Nat) : Int) * pz x ≤ l * pz x := Int.mul_le_mul_of_nonneg_right (by omega) px
      rw [ek] at kr ⊢
      have ei : a + i * cl x + cl x = a + (i + 1) * cl x := by rw [Int.add_mul, Int.one_mul]; omega
      have hext : l * cl x ≤ l * cl x + (if h < 0 then cl x + 4 else (h - l) * (cl x + 1)) := by
        have : 0 ≤ (if h < 0 then cl x + 4 else (h - l) * (cl x + 1)) := by
          split
          · omega
          · exact Int.mul_nonneg (by omega) (by omega)
        omega
      have hextm : l * cm x ≤ l * cm x + (if h < 0 then cm x + 1 else (h - l) * cm x) := by
        have : 0 ≤ (if h < 0 then cm x + 1 else (h - l) * cm x) := by
          split
          · omega
          · exact Int.mul_nonneg (by omega) mx
        omega
      generalize (if h < 0 then cl x + 4 else (h - l) * (cl x + 1)) = X1 at *
      generalize (if h < 0 then cm x + 1 else (h - l) * cm x) = X2 at *
      generalize (if h < 0 then pz x + 2 else (h - l) * (pz x + 1)) = X3 at *
      have rb := hx m h0 d B0 Bst G gm k0 k1 j0 j1 w7 bot lim W I O F A (a + i * cl x) (J + i * cm x) S Km ctx (LF (itr (dn (B0 57 0) (tB B0) x) k) (LF (mor (B0 57 0) (decide (g = 1)) l h (dn (B0 57 0) (tB B0) x)) K)) p' u' (β' + X3 + k * pz x) (β1 + X3 + k * pz x) H hA (R1 i i0 hil) hS hCH (fun q hq => ⟨(hg q hq).1, by have := (hg q hq).2; omega⟩) (by omega) hw f1 (KP_LF (Pl_itr (dn_Pl _ _ _) _) hKM) (by omega) (by omega) (by omega) (by omega) (hlim (by omega)) (by omega) w1 w2 (by omega) (by omega) (by omega) (by rw [ei]; exact ih (i + 1) p' u' β' (by omega) (by omega) w0 w1 w2 w3 rr) (fun p'' v1 v2 => by rw [ei]; exact ih (i + 1) p'' 0 β1 (by omega) (by omega) (by omega) v2 (Int.le_refl _) (by omega) (r' p'' (by omega) v2))
      refine RnP_eq (RnP_le rb (by omega)) (fun c => ?_)
      exact LF_fm hD (Rg_itr hD k) (by omega) w1
  have h1 := cop l.toNat 0 p u β (by omega) (Int.le_refl _) (Int.le_refl _) p1 u0 b0 r
  have el : ((l.toNat : Nat) : Int) = l := by omega
  rw [Int.zero_mul, Int.add_zero, el] at h1
  refine RnP_eq (RnP_le h1 (by omega)) (fun c => ?_)
  exact LF_fm (Rg_itr hD _) (Rg_mor hD _ _ _) p0 p1
