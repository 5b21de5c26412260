/-! THE REFERENCE'S COMPILER: all rounds, all trees -/
theorem maybes {m : Nat} {h0 : qH} {d : Nat} {Q : qO → qB → Prop} {u : qT} (hu : TT u) (hm : m + 100 < 1000000000) {x b t g r : Int} {ctx : List Int} {B : qB} (hw : wf u) (hn : nd B (B 28 0) (B 29 0) u (B 18 x)) (x0 : 0 ≤ x) (x1 : x < 3000) (hN : B 28 0 ≤ 3000) (hM : B 29 0 ≤ 256) (hX : CX B ctx b (t + 1)) (t0 : 0 ≤ t) (h60 : B 60 t = 8) (h61 : B 61 t = x) (h62 : B 62 t = g) (h63 : B 63 t = -1) (hg : R32 g) (hr : B 21 x - B 20 x = r) (r0 : 0 ≤ r) (r1 : r ≤ 20) (hb : b + r * (cl u + 1) ≤ 5980) (ht : t + 1 + 2 * r + th u ≤ 5880) (hs : B 48 0 + r * (cs u + 1) ≤ 1990) (hk : B 47 0 + r * cm u ≤ 790) (hL : ctx.length + sd u ≤ 10) (hL0 : ctx.length ≤ 10)
    (kk : ∀ B', CX B' ctx (b + r * (cl u + 1)) t → B' 48 0 = B 48 0 + r * (cs u + 1) → B' 47 0 = B 47 0 + r * cm u → FrS (CF b t (B 48 0) (B 47 0)) B B' → (∀ j, 0 ≤ j → j < r → B' 42 (b + j * (cl u + 1)) = 1 ∧ SpA B' (B' 48 0) (b + j * (cl u + 1)) ctx ∧ B' 43 (b + j * (cl u + 1)) = (if g = 1 then b + r * (cl u + 1) else b + j * (cl u + 1) + 1) ∧ B' 44 (b + j * (cl u + 1)) = (if g = 1 then b + j * (cl u + 1) + 1 else b + r * (cl u + 1)) ∧ Seg B' (B' 48 0) (B' 47 0) u (b + j * (cl u + 1) + 1) ctx (B 47 0 + j * cm u)) → CL m h0 d B' Q) : CL m h0 d B Q := by
  obtain ⟨nu, ns, nm⟩ := cl_nn u hw
  have tu := th_pos u
  have b0 : 0 ≤ b := hX.2.2.2.2.2.1
  have hsp : 0 ≤ B 48 0 := hX.2.2.2.2.2.2.2.1
  have hmk : 0 ≤ B 47 0 := hX.2.2.2.2.2.2.2.2.1
  have rc : 0 ≤ r * (cl u + 1) := Int.mul_nonneg r0 (by omega)
  have rs : 0 ≤ r * (cs u + 1) := Int.mul_nonneg r0 (by omega)
  have rm : 0 ≤ r * cm u := Int.mul_nonneg r0 nm
  refine C_maybe1 hm hX.2.1 t0 (by omega) hX.1 h60 h61 h62 h63 x0 x1 hr r0 r1 (fun hz => ?_) (fun hz B1 k64 k60 k61 k62 k63 kT kF => ?_)
  · obtain ⟨c1, c2⟩ := X_pop hX t0
    subst hz
    refine kk _ (by rw [Int.zero_mul, Int.add_zero]; exact c1) (by rw [u2_bank (by decide), Int.zero_mul, Int.add_zero]) (by rw [u2_bank (by decide), Int.zero_mul, Int.add_zero]) (TS_to c2) (fun j j0 j1 => by omega)
  · have e28 : B1 28 0 = B 28 0 := kF 28 0 (by unfold TS; omega)
    have e29 : B1 29 0 = B 29 0 := kF 29 0 (by unfold TS; omega)
    have e48 : B1 48 0 = B 48 0 := kF 48 0 (by unfold TS; omega)
    have e47 : B1 47 0 = B 47 0 := kF 47 0 (by unfold TS; omega)
    have e21 : B1 21 x - B1 20 x = r := by rw [kF 21 x (by unfold TS; omega), kF 20 x (by unfold TS; omega)]; exact hr
    have er : ((r.toNat : Nat) : Int) = r := by omega
    have hX1 : CX B1 ctx b (t + 1 + 2 * r) := CX_eq hX k64 (by omega) (fun c y q => kF c y (by unfold TS; omega))
    refine opts hu hm (B := B1) (y := B 18 x) (b := b) (t := t) (sp := B 48 0) (mk := B 47 0) hw (nd_CF (a := 0) (t := t) (sp := 0) (mk := 0) (TS_to kF) hn) (by omega) (by omega) t0 hL hL0 r.toNat 0 B1 (Int.le_refl _) (by rw [Int.zero_mul, Int.add_zero, er]; exact hX1) (fun j j0 j1 => kT j (by omega) (by omega)) (by rw [er]; omega) (by rw [er, Int.zero_add]; exact hb) (by rw [Int.zero_mul, Int.add_zero]; exact e48) (by rw [er, Int.zero_add]; exact hs) (by rw [Int.zero_mul, Int.add_zero]; exact e47) (by rw [er, Int.zero_add]; exact hk) hsp hmk FrS.refl (fun j j0 j1 => by omega) (fun B2 q1 q2 q3 q4 q5 => ?_)
    rw [er, Int.zero_add] at q1 q2 q3 q5
    have r60 : B2 60 t = 8 := (q4 60 t (by unfold CF; omega)).trans k60
    have r61 : B2 61 t = x := (q4 61 t (by unfold CF; omega)).trans k61
    have r62 : B2 62 t = g := (q4 62 t (by unfold CF; omega)).trans k62
    have r63 : B2 63 t = b := (q4 63 t (by unfold CF; omega)).trans k63
    have r21 : B2 21 x - B2 20 x = r := by rw [CF41 q4 (by decide), CF41 q4 (by decide)]; exact e21
    have hc1 : 1 * (cl u + 1) ≤ r * (cl u + 1) := Int.mul_le_mul_of_nonneg_right (by omega) (by omega)
    rw [Int.one_mul] at hc1
    refine C_maybe2 hm (a := b + r * (cl u + 1)) (f := b) (c := cl u + 1) q1.2.1 t0 (by omega) q1.1 r60 r61 r62 r63 hg x0 x1 r21 (by omega) r1 b0 (by omega) (by omega) rfl (by omega) (fun B3 p1 p2 p3 p4 => ?_)
    have f0 : FrS (CF b t (B 48 0) (B 47 0)) B B2 := CF_tr (TS_to kF) q4 (Int.le_refl _) (by omega) (Int.le_refl _) (Int.le_refl _)
    have f3 : FrS (CF b t (B2 48 0) (B2 47 0)) B2 B3 := by
      intro c y q
      by_cases hc : c = 43 ∨ c = 44
      · exact p4 c y hc (Or.inl (by unfold CF at q; omega))
      · exact p3 c y (by unfold CF at q; omega)
    have u48 : B3 48 0 = B2 48 0 := p3 48 0 (by decide)
    have u47 : B3 47 0 = B2 47 0 := p3 47 0 (by decide)
    have X3 : CX B3 ctx (b + r * (cl u + 1)) t := CX_eq q1 p2 t0 (fun c y q => p3 c y (by omega))
    have f03 : FrS (CF b t (B 48 0) (B 47 0)) B B3 := CF_tr f0 f3 (Int.le_refl _) (Int.le_refl _) (by omega) (by omega)
    refine kk B3 X3 (by omega) (by omega) f03 (fun j j0 j1 => ?_)
    have hj := mul_in j0 j1 (show 0 ≤ cl u + 1 by omega)
    obtain ⟨s1, s2, s3⟩ := q5 j j0 j1
    obtain ⟨t1', t2'⟩ := p1 j j0 j1
    refine ⟨(p3 42 _ (by decide)).trans s1, SpA_fr (p3 45 _ (by decide)) (fun y _ _ => p3 52 y (by decide)) (fun y _ _ => p3 54 y (by decide)) (by omega) s2, t1', t2', ?_⟩
    refine Seg_fr (fun y _ _ => p3 52 y (by decide)) (fun y _ _ => p3 54 y (by decide)) (fun y _ _ => p3 53 y (by decide)) (fun y => p3 27 y (by decide)) (by omega) (by omega) u _ ctx _ hw (fun c y c1 c2 y1 y2 => ?_) s3
    by_cases hc : c = 43 ∨ c = 44
    · refine p4 c y hc (Or.inr (fun i i0 i1 e => ?_))
      -- a split's place is not within a round's code
      by_cases hij : i ≤ j
      · have := Int.mul_le_mul_of_nonneg_right hij (show 0 ≤ cl u + 1 by omega)
        omega
      · have h9 := mul_in j0 (show j < i by omega) (show 0 ≤ cl u + 1 by omega)
        omega
    · exact p3 c y (by omega)
/-- all rounds of a part: task 5 -/
theorem reps {m : Nat} {h0 : qH} {d : Nat} {Q : qO → qB → Prop} {u : qT} (hu : TT u) (hm : m + 100 < 1000000000) {x a t g l h : Int} {ctx : List Int} {B : qB} (hw : wf u) (hn : nd B (B 28 0) (B 29 0) u (B 18 x)) (x0 : 0 ≤ x) (x1 : x < 3000) (hN : B 28 0 ≤ 3000) (hM : B 29 0 ≤ 256) (hX : CX B ctx a (t + 1)) (t0 : 0 ≤ t) (h60 : B 60 t = 5) (h61 : B 61 t = x) (h62 : B 62 t = g) (hg : R32 g) (h20 : B 20 x = l) (h21 : B 21 x = h) (l0 : 0 ≤ l) (l1 : l ≤ 20) (hh : h = -1 ∨ l ≤ h) (hh2 : h ≤ 20)
    (ha : a + l * cl u + (if h < 0 then cl u + 4 else (h - l) * (cl u + 1)) ≤ 5980) (ht : t + 42 + th u ≤ 5880) (hs : B 48 0 + l * cs u + (if h < 0 then cs u + 1 else (h - l) * (cs u + 1)) ≤ 1990) (hk : B 47 0 + l * cm u + (if h < 0 then cm u + 1 else (h - l) * cm u) ≤ 790) (hL : ctx.length + 1 + sd u ≤ 10) (hL0 : ctx.length ≤ 10)
    (kk : ∀ B', CX B' ctx (a + l * cl u + (if h < 0 then cl u + 4 else (h - l) * (cl u + 1))) t → B' 48 0 = B 48 0 + l * cs u + (if h < 0 then cs u + 1 else (h - l) * (cs u + 1)) → B' 47 0 = B 47 0 + l * cm u + (if h < 0 then cm u + 1 else (h - l) * cm u) → FrS (CF a t (B 48 0) (B 47 0)) B B' → Rp B' (B' 48 0) (B' 47 0) (fun a c j => Seg B' (B' 48 0) (B' 47 0) u a c j) (cl u) (cm u) l h g a ctx (B 47 0) → CL m h0 d B' Q) : CL m h0 d B Q := by
  obtain ⟨nu, ns, nm⟩ := cl_nn u hw
  have tu := th_pos u
  have a0 : 0 ≤ a := hX.2.2.2.2.2.1
  have hsp : 0 ≤ B 48 0 := hX.2.2.2.2.2.2.2.1
  have hmk : 0 ≤ B 47 0 := hX.2.2.2.2.2.2.2.2.1
  have lc : 0 ≤ l * cl u := Int.mul_nonneg l0 nu
  have ls : 0 ≤ l * cs u := Int.mul_nonneg l0 ns
  have lm : 0 ≤ l * cm u := Int.mul_nonneg l0 nm
  have hx0 : 0 ≤ (if h < 0 then cl u + 4 else (h - l) * (cl u + 1)) := by
    split
    · omega
    · exact Int.mul_nonneg (by omega) (by omega)
  have hy0 : 0 ≤ (if h < 0 then cs u + 1 else (h - l) * (cs u + 1)) := by
    split
    · omega
    · exact Int.mul_nonneg (by omega) (by omega)
  have hz0 : 0 ≤ (if h < 0 then cm u + 1 else (h - l) * cm u) := by
    split
    · omega
    · exact Int.mul_nonneg (by omega) nm
  have el : ((l.toNat : Nat) : Int) = l := by omega
  refine C_repeat hm hX.2.1 t0 (by omega) h60 h61 x0 x1 (by rw [h21]; exact ⟨by omega, by omega⟩) h20 l0 l1 (fun B1 k64 k60 k61 k62 k63 kT kF => ?_)
  rw [h21] at k60
  rw [h62] at k62
  have hX1 : CX B1 ctx a (t + 1 + l) := CX_eq hX k64 (by omega) (fun c y q => kF c y (by unfold TS; omega))
  have e28 : B1 28 0 = B 28 0 := kF 28 0 (by unfold TS; omega)
  have e29 : B1 29 0 = B 29 0 := kF 29 0 (by unfold TS; omega)
  have e48 : B1 48 0 = B 48 0 := kF 48 0 (by unfold TS; omega)
  have e47 : B1 47 0 = B 47 0 := kF 47 0 (by unfold TS; omega)
  have hn1 : nd B1 (B1 28 0) (B1 29 0) u (B 18 x) := nd_CF (a := 0) (t := t) (sp := 0) (mk := 0) (TS_to kF) hn
  refine copies hu hm (x := x) (y := B 18 x) (a := a) (t := t) (sp := B 48 0) (mk := B 47 0) (ctx := ctx) (B := B1) hw hn1 (by omega) (by omega) t0 (by omega) l.toNat 0 B1 (Int.le_refl _) (by rw [Int.zero_mul, Int.add_zero, el]; exact hX1) (fun j j1 j2 => kT j j1 (by omega)) (by rw [el]; omega) (by rw [el, Int.zero_add]; omega) (by rw [Int.zero_mul, Int.add_zero]; exact e48) (by rw [el, Int.zero_add]; omega) (by rw [Int.zero_mul, Int.add_zero]; exact e47) (by rw [el, Int.zero_add]; omega) hsp hmk FrS.refl (fun j j0 j1 => by omega) (fun B2 q1 q2 q3 q4 q5 => ?_)
  rw [el, Int.zero_add] at q1 q2 q3 q5
  have f2 : FrS (CF a t (B 48 0) (B 47 0)) B B2 := CF_tr (TS_to kF) q4 (Int.le_refl _) (by omega) (Int.le_refl _) (Int.le_refl _)
  have r60 : B2 60 t = (if h < 0 then 6 else 8) := (q4 60 t (by unfold CF; omega)).trans k60
  have r61 : B2 61 t = x := (q4 61 t (by unfold CF; omega)).trans k61
  have r62 : B2 62 t = g := (q4 62 t (by unfold CF; omega)).trans k62
  have r63 : B2 63 t = -1 := (q4 63 t (by unfold CF; omega)).trans k63
  have r18 : B2 18 x = B 18 x := CF41 f2 (by decide)
  have hn2 : nd B2 (B2 28 0) (B2 29 0) u (B2 18 x) := by rw [r18]; exact nd_CF f2 hn
  have hN2 : B2 28 0 ≤ 3000 := by rw [CF41 f2 (by decide)]; exact hN
  have hM2 : B2 29 0 ≤ 256 := by rw [CF41 f2 (by decide)]; exact hM
  clear k60 k61 k62 k63 kT kF hX1 hn1
  by_cases hneg : h < 0
  · simp only [if_pos hneg] at ha hs hk kk r60 hx0 hy0 hz0
    refine star hu hm (x := x) (b := a + l * cl u) (t := t) (g := g) hw hn2 x0 x1 hN2 hM2 q1 t0 r60 r61 r62 hg (by omega) (by omega) (by omega) (by omega) (by omega) hL0 (fun B3 p1 p2 p3 p4 p5 => ?_)
    refine kk B3 (by rw [← Int.add_assoc]; exact p1) (by omega) (by omega) (CF_tr f2 p4 (by omega) (Int.le_refl _) (by omega) (by omega)) ⟨fun i i0 i1 => ?_, ?_⟩
    · have := mul_in i0 i1 nu
      exact Seg_CF (t := 0) p4 hw (by omega) (by omega) (by omega) (q5 i i0 i1)
    · rw [if_pos hneg]
      rw [q3] at p5
      exact p5
  · simp only [if_neg hneg] at ha hs hk kk r60 hx0 hy0 hz0
    have r2 : B2 21 x - B2 20 x = h - l := by rw [CF41 f2 (by decide), CF41 f2 (by decide), h20, h21]
    refine maybes hu hm (x := x) (b := a + l * cl u) (t := t) (g := g) (r := h - l) hw hn2 x0 x1 hN2 hM2 q1 t0 r60 r61 r62 r63 hg r2 (by omega) (by omega) (by omega) (by omega) (by omega) (by omega) (by omega) hL0 (fun B3 p1 p2 p3 p4 p5 => ?_)
    refine kk B3 p1 (by omega) (by omega) (CF_tr f2 p4 (by omega) (Int.le_refl _) (by omega) (by omega)) ⟨fun i i0 i1 => ?_, ?_⟩
    · have := mul_in i0 i1 nu
      exact Seg_CF (t := 0) p4 hw (by omega) (by omega) (by omega) (q5 i i0 i1)
    · rw [if_neg hneg]
      rw [q3] at p5
      exact p5
