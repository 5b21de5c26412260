/-! THE REFERENCE'S SEARCH: what each instruction does to the ways that are left -/
section STEP
variable {B0 Bst : qB} {G : qG} {gm : Int → Prop} {k0 k1 j0 j1 : Int} {w7 : Prop} {bot lim W : Int} {I O F A : qB → Prop} {m : Nat} {h0 : qH} {d : Nat}
theorem St_tx {B : qB} (h : St B0 Bst k0 k1 j0 j1 w7 bot B) (hT : TXT B0) : TXT B := by
  obtain ⟨t1, t2, t3, t4, t5⟩ := hT
  have e : ∀ b y, b ≤ 48 ∨ (52 ≤ b ∧ b ≤ 64) → B b y = B0 b y := fun b y q => h.1 b y (by unfold SB; omega)
  refine ⟨by rw [e 57 0 (by omega)]; exact t1, by rw [e 57 0 (by omega)]; exact t2, by rw [e 58 0 (by omega)]; exact t3, by rw [e 58 0 (by omega)]; exact t4, fun x x0 x1 => by rw [e 5 x (by omega)]; exact t5 x x0 x1⟩
theorem St_tB {B : qB} (h : St B0 Bst k0 k1 j0 j1 w7 bot B) : tB B = tB B0 := by
  funext p
  unfold tB
  rw [h.1 58 0 (by unfold SB; omega), h.1 5 _ (by unfold SB; omega)]
theorem St_has {B : qB} (h : St B0 Bst k0 k1 j0 j1 w7 bot B) (s c : Int) : hasB B s c = hasB B0 s c := by
  unfold hasB
  rw [h.1 27 _ (by unfold SB; omega)]
theorem St_e {B : qB} (h : St B0 Bst k0 k1 j0 j1 w7 bot B) (b : Nat) (y : Int) (hb : b ≤ 48 ∨ (52 ≤ b ∧ b ≤ 64)) : B b y = B0 b y := h.1 b y (by unfold SB; omega)
theorem Cn_u {f : Int → Int} {p u : Int} {ctx : List Int} (h : Cn f p ctx u) : 0 ≤ u ∧ u ≤ ctx.length := by
  obtain ⟨A, C, e, -, -, hu⟩ := h
  subst e
  rw [List.length_append]
  omega
theorem Cn_eq {f g : Int → Int} {p u : Int} {ctx : List Int} (h : Cn f p ctx u) (e : ∀ q ∈ ctx, g q = f q) : Cn g p ctx u := by
  obtain ⟨A, C, e1, hA, hC, hu⟩ := h
  exact ⟨A, C, e1, fun q hq => (e q (by rw [e1]; exact List.mem_append_left _ hq)).trans (hA q hq), fun q hq => by rw [e q (by rw [e1]; exact List.mem_append_right _ hq)]; exact hC q hq, hu⟩
theorem Cn_le {f : Int → Int} {p u : Int} {ctx : List Int} (h : Cn f p ctx u) : ∀ q ∈ ctx, f q ≤ p := by
  obtain ⟨A, C, e1, hA, hC, hu⟩ := h
  intro q hq
  rw [e1] at hq
  rcases List.mem_append.mp hq with w | w
  · have := hA q w; omega
  · have := hC q w; omega
theorem Cn_mv {f : Int → Int} {p p' : Int} {ctx : List Int} (h : ∀ q ∈ ctx, f q ≤ p) (hp : p < p') : Cn f p' ctx 0 := ⟨[], ctx, rfl, fun q hq => by simp at hq, fun q hq => by have := h q hq; omega, rfl⟩
theorem S_byte (H : HG m h0 d B0 G k0 k1 j0 j1 w7 bot lim W I O F A) {p u a β β1 : Int} {ctx : List Int} {K : qK} {s : Nat} (a0 : 0 ≤ a) (a1 : a < 6000) (h42 : B0 42 a = 0) (s0 : 0 ≤ B0 43 a) (s1 : B0 43 a < 256) (hs : ∀ c, 0 ≤ c → c < 256 → hasB B0 (B0 43 a) c = s.testBit c.toNat) (p0 : 0 ≤ p) (p1 : p ≤ B0 57 0) (hl : ctx.length ≤ 12) (hβ : β1 ≤ W + β) (r : p < B0 57 0 → RnP B0 Bst G gm k0 k1 j0 j1 w7 bot lim W I O F (p + 1) 0 (a + 1) ctx K β1) : RnP B0 Bst G gm k0 k1 j0 j1 w7 bot lim W I O F p u a ctx (LF (dn (B0 57 0) (tB B0) (.var s)) K) β := by
  intro B c h hSt h68 h69 hC hc h66 hb hlim hI hO hF
  have hT := St_tx hSt H.2.1
  have e57 : B 57 0 = B0 57 0 := St_e hSt 57 0 (by omega)
  have e42 : B 42 a = B0 42 a := St_e hSt 42 a (by omega)
  have e43 : B 43 a = B0 43 a := St_e hSt 43 a (by omega)
  have hu := Cn_u hC
  have hdn : dn (B0 57 0) (tB B0) (.var s) p c = if p < B0 57 0 ∧ s.testBit (tB B0 p).toNat = true then [(p + 1, c)] else [] := rfl
  refine H.1.1 B (R_one0 (d := d + 2) H.2.2.2.2.2.2.2.1 (by rw [h68]; exact a0) (by rw [h68]; exact a1) (by rw [h68, e42]; exact h42) (by rw [h68, e43]; exact s0) (by rw [h68, e43]; exact s1) hT (by rw [h69]; exact p0) (by rw [h69, e57]; exact p1) (fun q1 q2 => ⟨0, rfl, Or.inl ⟨rfl, ?_⟩⟩) (fun q => ⟨1, rfl, Or.inr (Or.inl ⟨rfl, ?_⟩)⟩))
  · rw [h69, e57] at q1
    rw [h68, h69, e43, St_has hSt, St_tB hSt] at q2
    have hb' := tB_R H.2.1 p0 q1
    rw [hs _ hb'.1 hb'.2] at q2
    have hL : LF (dn (B0 57 0) (tB B0) (.var s)) K p u c = K (p + 1) 0 c := by
      unfold LF
      rw [hdn, if_pos ⟨q1, q2⟩]
      simp only [List.flatMap_cons, List.flatMap_nil, List.append_nil]
      rw [if_neg (by omega)]
    rw [hL] at hO hF
    rw [h68, h69]
    have hn : (B0 57 0 - p) * W = (B0 57 0 - (p + 1)) * W + W := by
      rw [show B0 57 0 - p = (B0 57 0 - (p + 1)) + 1 by omega, Int.add_mul, Int.one_mul]
    refine r q1 (u2 (u2 B 69 0 (p + 1)) 68 0 (a + 1)) c h (St_free (by omega) (St_free (by omega) hSt)) u2_same (by rw [u2_bank (by decide), u2_same]) ?_ (fun i i0 i1 => by rw [u2_bank (by decide), u2_bank (by decide)]; exact hc i i0 i1) (by rw [u2_bank (by decide), u2_bank (by decide)]; exact h66) hb (by omega) (Inv_mono hI (by unfold ms; omega) (fun k => fbit_eq (fun y => by rw [u2_bank (by decide), u2_bank (by decide)]))) (fun q B' hP => hO q B' (PF_from (fun y _ => by rw [u2_bank (by decide), u2_bank (by decide)]) (fun i _ _ => by rw [u2_bank (by decide), u2_bank (by decide)]) (fun q _ => by rw [u2_bank (by decide), u2_bank (by decide)]) (MP_eq (fun k => fbit_eq (fun y => by rw [u2_bank (by decide), u2_bank (by decide)]))) hP)) hF
    exact Cn_mv (p := p) (fun q hq => by rw [u2_bank (by decide), u2_bank (by decide)]; exact Cn_le hC q hq) (by omega)
  · rw [h68, h69, e43, e57, St_has hSt, St_tB hSt] at q
    refine fails hSt h66 hO ?_
    unfold LF
    rw [hdn, if_neg (fun w => q ⟨w.1, ?_⟩)]
    · rfl
    · have hb' := tB_R H.2.1 p0 w.1
      rw [hs _ hb'.1 hb'.2]
      exact w.2
/-- memory at another instruction -/
theorem RnP_at {B : qB} {p u a b β β' : Int} {ctx : List Int} {K : qK} {c : qCp} {h : Int} (r : RnP B0 Bst G gm k0 k1 j0 j1 w7 bot lim W I O F p u b ctx K β') (hSt : St B0 Bst k0 k1 j0 j1 w7 bot B) (h69 : B 69 0 = p) (hC : Cn (B 51) p ctx u) (hc : ∀ i, 0 ≤ i → i < 20 → B 49 i = c i) (h66 : B 66 0 = h) (hb : bot ≤ h) (hlim : h + (B0 57 0 - p) * W + β ≤ lim) (hβ : β' ≤ β) (hI : Inv B0 G B (ms B0 a p (ctx.length - u))) (hab : a ≤ b) (hO : K p u c = [] → ∀ B', PF B0 Bst G gm k0 k1 j0 j1 w7 bot B B' h → O B') (hF : ∀ o r, K p u c = o :: r → FIN B0 Bst k0 k1 j0 j1 w7 bot F o) : I (u2 B 68 0 b) := by
  refine r (u2 B 68 0 b) c h (St_free (by omega) hSt) u2_same (by rw [u2_bank (by decide)]; exact h69) (Cn_eq hC (fun q _ => u2_bank (by decide))) (fun i i0 i1 => by rw [u2_bank (by decide)]; exact hc i i0 i1) (by rw [u2_bank (by decide)]; exact h66) hb (by omega) (Inv_mono hI (by unfold ms; omega) (fun k => fbit_eq (fun y => u2_bank (by decide)))) (fun q B' hP => hO q B' (PF_from (fun y _ => u2_bank (by decide)) (fun i _ _ => u2_bank (by decide)) (fun q _ => u2_bank (by decide)) (MP_eq (fun k => fbit_eq (fun y => u2_bank (by decide)))) hP)) hF
theorem S_test (H : HG m h0 d B0 G k0 k1 j0 j1 w7 bot lim W I O F A) {p u a β j : Int} {ctx : List Int} {K : qK} (a0 : 0 ≤ a) (a1 : a < 6000) (j1' : 1 ≤ j) (j4 : j ≤ 4) (h42 : B0 42 a = 6 + j) (p0 : 0 ≤ p) (p1 : p ≤ B0 57 0) (r : RnP B0 Bst G gm k0 k1 j0 j1 w7 bot lim W I O F p u (a + 1) ctx K β) : RnP B0 Bst G gm k0 k1 j0 j1 w7 bot lim W I O F p u a ctx (LF (dn (B0 57 0) (tB B0) (.num j)) K) β := by
  intro B c h hSt h68 h69 hC hc h66 hb hlim hI hO hF
  have hT := St_tx hSt H.2.1
  have e57 : B 57 0 = B0 57 0 := St_e hSt 57 0 (by omega)
  have e42 : B 42 a = B0 42 a := St_e hSt 42 a (by omega)
  have hdn : dn (B0 57 0) (tB B0) (.num j) p c = if j = 0 ∨ good (B0 57 0) (tB B0) j p = true then [(p, c)] else [] := rfl
  refine H.1.1 B (R_one7 (d := d) H.2.2.2.2.2.2.2.1 j1' j4 (by rw [h68]; exact a0) (by rw [h68]; exact a1) (by rw [h68, e42]; exact h42) hT (by rw [h69]; exact p0) (by rw [h69, e57]; exact p1) (fun q => ⟨0, rfl, Or.inl ⟨rfl, ?_⟩⟩) (fun q => ⟨1, rfl, Or.inr (Or.inl ⟨rfl, ?_⟩)⟩))
  · rw [h69, e57, St_tB hSt] at q
    have hL : LF (dn (B0 57 0) (tB B0) (.num j)) K p u c = K p u c := by
      unfold LF
      rw [hdn, if_pos (Or.inr q)]
      simp only [List.flatMap_cons, List.flatMap_nil, List.append_nil]
      rw [if_pos trivial]
    rw [hL] at hO hF
    rw [h68]
    exact RnP_at r hSt h69 hC hc h66 hb hlim (Int.le_refl _) hI (by omega) hO hF
  · rw [h69, e57, St_tB hSt] at q
    refine fails hSt h66 hO ?_
    unfold LF
    rw [hdn, if_neg (fun w => ?_)]
    · rfl
    · rcases w with w | w
      · omega
      · rw [q] at w; exact absurd w (by decide)
theorem S_jump (H : HG m h0 d B0 G k0 k1 j0 j1 w7 bot lim W I O F A) {p u a b β : Int} {ctx : List Int} {K : qK} (a0 : 0 ≤ a) (a1 : a < 6000) (h42 : B0 42 a = 2) (h43 : B0 43 a = b) (hab : a ≤ b) (r : RnP B0 Bst G gm k0 k1 j0 j1 w7 bot lim W I O F p u b ctx K β) : RnP B0 Bst G gm k0 k1 j0 j1 w7 bot lim W I O F p u a ctx K β := by
  intro B c h hSt h68 h69 hC hc h66 hb hlim hI hO hF
  have e42 : B 42 a = B0 42 a := St_e hSt 42 a (by omega)
  have e43 : B 43 a = B0 43 a := St_e hSt 43 a (by omega)
  refine H.1.1 B (R_one2 (d := d + 3) H.2.2.2.2.2.2.2.1 (by rw [h68]; exact a0) (by rw [h68]; exact a1) (by rw [h68, e42]; exact h42) ⟨0, rfl, Or.inl ⟨rfl, ?_⟩⟩)
  rw [h68, e43, h43]
  exact RnP_at r hSt h69 hC hc h66 hb hlim (Int.le_refl _) hI hab hO hF
theorem S_save (H : HG m h0 d B0 G k0 k1 j0 j1 w7 bot lim W I O F A) {p u a β s : Int} {ctx : List Int} {K : qK} (a0 : 0 ≤ a) (a1 : a < 6000) (h42 : B0 42 a = 3) (h43 : B0 43 a = s) (s0 : 0 ≤ s) (s1 : s < 20) (p0 : 0 ≤ p) (p1 : p ≤ B0 57 0) (hβ : 0 ≤ β) (r : RnP B0 Bst G gm k0 k1 j0 j1 w7 bot lim W I O F p u (a + 1) ctx K β) : RnP B0 Bst G gm k0 k1 j0 j1 w7 bot lim W I O F p u a ctx (fun p u c => K p u (upc c s p)) (β + 1) := by
  intro B c h hSt h68 h69 hC hc h66 hb hlim hI hO hF
  obtain ⟨t1, t2, t3, t4, t5⟩ := H.2.1
  have e42 : B 42 a = B0 42 a := St_e hSt 42 a (by omega)
  have e43 : B 43 a = B0 43 a := St_e hSt 43 a (by omega)
  have hv := hSt.2.2.1 s s0 s1
  have hW : 0 ≤ (B0 57 0 - p) * W := Int.mul_nonneg (by omega) H.2.2.2.2.1
  have hl2 := H.2.2.2.1
  have hb0 := H.2.2.1
  refine H.1.1 B (R_one3 (d := d + 1) H.2.2.2.2.2.2.2.1 (by rw [h68]; exact a0) (by rw [h68]; exact a1) (by rw [h68, e42]; exact h42) (by rw [h68, e43, h43]; exact s0) (by rw [h68, e43, h43]; exact s1) (by rw [h66]; omega) (by rw [h66]; omega) ⟨0, rfl, Or.inl ⟨rfl, ?_⟩⟩)
  rw [h68, e43, h43, h69]
  have b66 : psB B (bw s (B 49 s)) 66 0 = h + 1 := by rw [psB_66, h66]
  have b65 : psB B (bw s (B 49 s)) 65 h = bw s (B 49 s) := by rw [← h66]; exact psB_top
  have b65l : ∀ y, y < h → psB B (bw s (B 49 s)) 65 y = B 65 y := fun y hy => psB_low (by omega)
  have bo : ∀ b y, b ≠ 65 → b ≠ 66 → psB B (bw s (B 49 s)) b y = B b y := fun b y q1 q2 => psB_oth q1 q2
  have bSt : St B0 Bst k0 k1 j0 j1 w7 bot (psB B (bw s (B 49 s))) := St_ps (by omega) hSt
  generalize psB B (bw s (B 49 s)) = P at *
  refine RnP_at (B := u2 P 49 s p) (c := upc c s p) (h := h + 1) (β := β) (a := a) r (St_49 (by omega) (by omega) bSt) (by rw [u2_bank (by decide), bo 69 0 (by decide) (by decide)]; exact h69) (Cn_eq hC (fun q _ => by rw [u2_bank (by decide), bo 51 q (by decide) (by decide)])) (fun i i0 i1 => ?_) (by rw [u2_bank (by decide)]; exact b66) (by omega) (by omega) (Int.le_refl _) (Inv_mono hI (Int.le_refl _) (fun k => fbit_eq (fun y => by rw [u2_bank (by decide), bo 67 y (by decide) (by decide)]))) (by omega) (fun q B' hP => ?_) hF
  · by_cases e : i = s
    · subst e; rw [u2_same]; unfold upc; rw [if_pos rfl]
    · rw [u2_idx e, bo 49 i (by decide) (by decide)]; unfold upc; rw [if_neg e]; exact hc i i0 i1
  · obtain ⟨g1, g2, g3, g4, g5, g6⟩ := hP
    refine H.1.2.2.1 B' h s (B 49 s) g2 hb (by omega) ?_ s0 s1 hv.1 hv.2 (hO q _ ⟨St_49 hv.1 hv.2 (St_free (by omega) g1), by rw [u2_bank (by decide), u2_same], fun y hy => ?_, fun i i0 i1 => ?_, fun q' hq => ?_, ?_⟩)
    · rw [g3 h (by omega), u2_bank (by decide)]; exact b65
    · rw [u2_bank (by decide), u2_bank (by decide), g3 y (by omega), u2_bank (by decide)]; exact b65l y hy
    · by_cases e : i = s
      · subst e; rw [u2_same]
      · rw [u2_idx e, u2_bank (by decide), g4 i i0 i1, u2_idx e]; exact bo 49 i (by decide) (by decide)
    · rw [u2_bank (by decide), u2_bank (by decide), g5 q' hq, u2_bank (by decide)]; exact bo 51 q' (by decide) (by decide)
    · exact MP_trans (MP_trans (MP_eq (fun k => fbit_eq (fun y => by rw [u2_bank (by decide), bo 67 y (by decide) (by decide)]))) g6) (MP_eq (fun k => fbit_eq (fun y => by rw [u2_bank (by decide), u2_bank (by decide)])))
theorem S_mark (H : HG m h0 d B0 G k0 k1 j0 j1 w7 bot lim W I O F A) {p u a β s : Int} {ctx : List Int} {K : qK} (a0 : 0 ≤ a) (a1 : a < 6000) (h42 : B0 42 a = 4) (h43 : B0 43 a = s) (s0 : j0 ≤ s) (s1 : s < j1) (hs : ¬ s ∈ ctx) (p0 : 0 ≤ p) (p1 : p ≤ B0 57 0) (hβ : 0 ≤ β) (r : RnP B0 Bst G gm k0 k1 j0 j1 w7 bot lim W I O F p (u + 1) (a + 1) (s :: ctx) K β) : RnP B0 Bst G gm k0 k1 j0 j1 w7 bot lim W I O F p u a ctx (fun p u c => K p (u + 1) c) (β + 1) := by
  intro B c h hSt h68 h69 hC hc h66 hb hlim hI hO hF
  obtain ⟨t1, t2, t3, t4, t5⟩ := H.2.1
  have q0 := H.2.2.2.2.2.1
  have q1 := H.2.2.2.2.2.2.1
  have e42 : B 42 a = B0 42 a := St_e hSt 42 a (by omega)
  have e43 : B 43 a = B0 43 a := St_e hSt 43 a (by omega)
  have hv := hSt.2.1 s (by omega) (by omega)
  have hW : 0 ≤ (B0 57 0 - p) * W := Int.mul_nonneg (by omega) H.2.2.2.2.1
  have hl2 := H.2.2.2.1
  have hb0 := H.2.2.1
  refine H.1.1 B (R_one4 (d := d + 1) H.2.2.2.2.2.2.2.1 (by rw [h68]; exact a0) (by rw [h68]; exact a1) (by rw [h68, e42]; exact h42) (by rw [h68, e43, h43]; omega) (by rw [h68, e43, h43]; omega) (by rw [h66]; omega) (by rw [h66]; omega) ⟨0, rfl, Or.inl ⟨rfl, ?_⟩⟩)
  rw [h68, e43, h43, h69]
  have b66 : psB B (bw (32 + s) (B 51 s)) 66 0 = h + 1 := by rw [psB_66, h66]
  have b65 : psB B (bw (32 + s) (B 51 s)) 65 h = bw (32 + s) (B 51 s) := by rw [← h66]; exact psB_top
  have b65l : ∀ y, y < h → psB B (bw (32 + s) (B 51 s)) 65 y = B 65 y := fun y hy => psB_low (by omega)
  have bo : ∀ b y, b ≠ 65 → b ≠ 66 → psB B (bw (32 + s) (B 51 s)) b y = B b y := fun b y q1 q2 => psB_oth q1 q2
  have bSt : St B0 Bst k0 k1 j0 j1 w7 bot (psB B (bw (32 + s) (B 51 s))) := St_ps (by omega) hSt
  generalize psB B (bw (32 + s) (B 51 s)) = P at *
  have hlen : ((s :: ctx).length : Int) - (u + 1) = ctx.length - u := by rw [List.length_cons]; omega
  refine RnP_at (B := u2 P 51 s p) (c := c) (h := h + 1) (β := β) (a := a) r (St_51 s0 s1 (by omega) (by omega) bSt) (by rw [u2_bank (by decide), bo 69 0 (by decide) (by decide)]; exact h69) ?_ (fun i i0 i1 => by rw [u2_bank (by decide), bo 49 i (by decide) (by decide)]; exact hc i i0 i1) (by rw [u2_bank (by decide)]; exact b66) (by omega) (by omega) (Int.le_refl _) (by rw [hlen]; exact Inv_mono hI (Int.le_refl _) (fun k => fbit_eq (fun y => by rw [u2_bank (by decide), bo 67 y (by decide) (by decide)]))) (by omega) (fun q B' hP => ?_) hF
  · obtain ⟨A', C, e1, hA, hC', hu⟩ := hC
    have hne : ∀ q ∈ ctx, q ≠ s := fun q hq e => hs (e ▸ hq)
    refine ⟨s :: A', C, by rw [e1]; rfl, fun q hq => ?_, fun q hq => ?_, by rw [List.length_cons]; omega⟩
    · rcases List.mem_cons.mp hq with e | e
      · subst e; exact u2_same
      · rw [u2_idx (hne q (by rw [e1]; exact List.mem_append_left _ e)), bo 51 q (by decide) (by decide)]; exact hA q e
    · rw [u2_idx (hne q (by rw [e1]; exact List.mem_append_right _ hq)), bo 51 q (by decide) (by decide)]; exact hC' q hq
  · obtain ⟨g1, g2, g3, g4, g5, g6⟩ := hP
    refine H.1.2.2.2 B' h s (B 51 s) g2 hb (by omega) ?_ (by omega) (by omega) hv.1 hv.2 (hO q _ ⟨St_51 s0 s1 hv.1 hv.2 (St_free (by omega) g1), by rw [u2_bank (by decide), u2_same], fun y hy => ?_, fun i i0 i1 => ?_, fun q' hq => ?_, ?_⟩)
    · rw [g3 h (by omega), u2_bank (by decide)]; exact b65
    · rw [u2_bank (by decide), u2_bank (by decide), g3 y (by omega), u2_bank (by decide)]; exact b65l y hy
    · rw [u2_bank (by decide), u2_bank (by decide), g4 i i0 i1, u2_bank (by decide)]; exact bo 49 i (by decide) (by decide)
    · by_cases e : q' = s
      · subst e; rw [u2_same]
      · rw [u2_idx e, u2_bank (by decide), g5 q' hq, u2_idx e]; exact bo 51 q' (by decide) (by decide)
    · exact MP_trans (MP_trans (MP_eq (fun k => fbit_eq (fun y => by rw [u2_bank (by decide), bo 67 y (by decide) (by decide)]))) g6) (MP_eq (fun k => fbit_eq (fun y => by rw [u2_bank (by decide), u2_bank (by decide)])))
/-- the end of a round that has not moved -/
theorem S_movedF (H : HG m h0 d B0 G k0 k1 j0 j1 w7 bot lim W I O F A) {p u a β s : Int} {ctx : List Int} {K : qK} (a0 : 0 ≤ a) (a1 : a < 6000) (h42 : B0 42 a = 5) (h43 : B0 43 a = s) (s0 : j0 ≤ s) (s1 : s < j1) (p0 : 0 ≤ p) (p1 : p ≤ B0 57 0) (hβ : 0 ≤ β) (hu : 1 ≤ u) (hK : ∀ c, K p u c = []) : RnP B0 Bst G gm k0 k1 j0 j1 w7 bot lim W I O F p u a (s :: ctx) K β := by
  intro B c h hSt h68 h69 hC hc h66 hb hlim hI hO hF
  obtain ⟨t1, t2, t3, t4, t5⟩ := H.2.1
  have q0 := H.2.2.2.2.2.1
  have q1 := H.2.2.2.2.2.2.1
  have e42 : B 42 a = B0 42 a := St_e hSt 42 a (by omega)
  have e43 : B 43 a = B0 43 a := St_e hSt 43 a (by omega)
  have hW : 0 ≤ (B0 57 0 - p) * W := Int.mul_nonneg (by omega) H.2.2.2.2.1
  have hl2 := H.2.2.2.1
  have hb0 := H.2.2.1
  have hm51 : B 51 s = p := by
    obtain ⟨A', C, e1, hA, hC', hu'⟩ := hC
    cases A' with
    | nil => rw [List.length_nil] at hu'; omega
    | cons x r =>
      have : s = x := by
        rw [List.cons_append] at e1
        exact (List.cons.inj e1).1
      subst this
      exact hA s (List.mem_cons_self ..)
  refine H.1.1 B (R_one5 (d := d + 1) H.2.2.2.2.2.2.2.1 (by rw [h68]; exact a0) (by rw [h68]; exact a1) (by rw [h68, e42]; exact h42) (by rw [h68, e43, h43]; omega) (by rw [h68, e43, h43]; omega) hSt.2.1 (by rw [h69]; exact ⟨by omega, by omega⟩) (by rw [h66]; omega) (by rw [h66]; omega) (fun _ => ⟨1, rfl, Or.inr (Or.inl ⟨rfl, fails hSt h66 hO (hK c)⟩)⟩) (fun q => ?_))
  rw [h68, e43, h43, h69] at q
  exact absurd hm51 q
/-- the end of a round that has moved, and the way back -/
theorem S_moved (H : HG m h0 d B0 G k0 k1 j0 j1 w7 bot lim W I O F A) {p a b β s : Int} {ctx : List Int} {K K' : qK} (a0 : 0 ≤ a) (a1 : a + 1 < 6000) (h42 : B0 42 a = 5) (h43 : B0 43 a = s) (h42' : B0 42 (a + 1) = 2) (h43' : B0 43 (a + 1) = b) (b0 : 0 ≤ b) (s0 : j0 ≤ s) (s1 : s < j1) (hs : ¬ s ∈ ctx) (p0 : 0 ≤ p) (p1 : p ≤ B0 57 0) (hβ : 0 ≤ β) (hK : ∀ c, K' p 0 c = K p 0 c) (r : RnP B0 Bst G gm k0 k1 j0 j1 w7 bot lim W I O F p 0 b ctx K β) : RnP B0 Bst G gm k0 k1 j0 j1 w7 bot lim W I O F p 0 a (s :: ctx) K' (β + 1) := by
  intro B c h hSt h68 h69 hC hc h66 hb hlim hI hO hF
  rw [hK c] at hO hF
  obtain ⟨t1, t2, t3, t4, t5⟩ := H.2.1
  have q0 := H.2.2.2.2.2.1
  have q1 := H.2.2.2.2.2.2.1
  have e42 : B 42 a = B0 42 a := St_e hSt 42 a (by omega)
  have e43 : B 43 a = B0 43 a := St_e hSt 43 a (by omega)
  have hv := hSt.2.1 s (by omega) (by omega)
  have hW : 0 ≤ (B0 57 0 - p) * W := Int.mul_nonneg (by omega) H.2.2.2.2.1
  have hl2 := H.2.2.2.1
  have hb0 := H.2.2.1
  have hlt : ∀ q ∈ s :: ctx, B 51 q < p := by
    obtain ⟨A', C, e1, hA, hC', hu'⟩ := hC
    cases A' with
    | nil => rw [List.nil_append] at e1; rw [e1]; exact hC'
    | cons x r => rw [List.length_cons] at hu'; omega
  refine H.1.1 B (R_one5 (d := d + 1) H.2.2.2.2.2.2.2.1 (by rw [h68]; exact a0) (by rw [h68]; omega) (by rw [h68, e42]; exact h42) (by rw [h68, e43, h43]; omega) (by rw [h68, e43, h43]; omega) hSt.2.1 (by rw [h69]; exact ⟨by omega, by omega⟩) (by rw [h66]; omega) (by rw [h66]; omega) (fun q => ?_) (fun _ => ⟨0, rfl, Or.inl ⟨rfl, ?_⟩⟩))
  · rw [h68, e43, h43, h69] at q
    have := hlt s (List.mem_cons_self ..)
    omega
  rw [h68, e43, h43]
  have b66 : psB B (bw (32 + s) (B 51 s)) 66 0 = h + 1 := by rw [psB_66, h66]
  have b65 : psB B (bw (32 + s) (B 51 s)) 65 h = bw (32 + s) (B 51 s) := by rw [← h66]; exact psB_top
  have b65l : ∀ y, y < h → psB B (bw (32 + s) (B 51 s)) 65 y = B 65 y := fun y hy => psB_low (by omega)
  have bo : ∀ b y, b ≠ 65 → b ≠ 66 → psB B (bw (32 + s) (B 51 s)) b y = B b y := fun b y q1 q2 => psB_oth q1 q2
  have bSt : St B0 Bst k0 k1 j0 j1 w7 bot (psB B (bw (32 + s) (B 51 s))) := St_ps (by omega) hSt
  generalize psB B (bw (32 + s) (B 51 s)) = P at *
  have sSt : St B0 Bst k0 k1 j0 j1 w7 bot (u2 (u2 P 51 s (-1)) 68 0 (a + 1)) := St_free (by omega) (St_51 s0 s1 (by omega) (by omega) bSt)
  have f42 := St_e sSt 42 (a + 1) (by omega)
  have f43 := St_e sSt 43 (a + 1) (by omega)
  refine H.1.1 _ (R_one2 (d := d + 3) H.2.2.2.2.2.2.2.1 (by rw [u2_same]; omega) (by rw [u2_same]; omega) (by rw [u2_same, f42]; exact h42') ⟨0, rfl, Or.inl ⟨rfl, ?_⟩⟩)
  rw [u2_same, f43, h43']
  have hlen : ((s :: ctx).length : Int) = ctx.length + 1 := by rw [List.length_cons]; omega
  refine r (u2 (u2 (u2 P 51 s (-1)) 68 0 (a + 1)) 68 0 b) c (h + 1) (St_free (by omega) sSt) u2_same (by rw [u2_bank (by decide), u2_bank (by decide), u2_bank (by decide), bo 69 0 (by decide) (by decide)]; exact h69) ?_ (fun i i0 i1 => by rw [u2_bank (by decide), u2_bank (by decide), u2_bank (by decide), bo 49 i (by decide) (by decide)]; exact hc i i0 i1) (by rw [u2_bank (by decide), u2_bank (by decide), u2_bank (by decide)]; exact b66) (by omega) (by omega) (Inv_mono hI (by rw [hlen]; unfold ms; omega) (fun k => fbit_eq (fun y => by rw [u2_bank (by decide), u2_bank (by decide), u2_bank (by decide), bo 67 y (by decide) (by decide)]))) (fun q B' hP => ?_) hF
  · refine ⟨[], ctx, rfl, fun q hq => by simp at hq, fun q hq => ?_, rfl⟩
    rw [u2_bank (by decide), u2_bank (by decide), u2_idx (y := q) (x := s) (fun e => hs (e ▸ hq)), bo 51 q (by decide) (by decide)]
    exact hlt q (List.mem_cons_of_mem _ hq)
  · obtain ⟨g1, g2, g3, g4, g5, g6⟩ := hP
    refine H.1.2.2.2 B' h s (B 51 s) g2 hb (by omega) ?_ (by omega) (by omega) hv.1 hv.2 (hO q _ ⟨St_51 s0 s1 hv.1 hv.2 (St_free (by omega) g1), by rw [u2_bank (by decide), u2_same], fun y hy => ?_, fun i i0 i1 => ?_, fun q' hq => ?_, ?_⟩)
    · rw [g3 h (by omega), u2_bank (by decide), u2_bank (by decide), u2_bank (by decide)]; exact b65
    · rw [u2_bank (by decide), u2_bank (by decide), g3 y (by omega), u2_bank (by decide), u2_bank (by decide), u2_bank (by decide)]; exact b65l y hy
    · rw [u2_bank (by decide), u2_bank (by decide), g4 i i0 i1, u2_bank (by decide), u2_bank (by decide), u2_bank (by decide)]; exact bo 49 i (by decide) (by decide)
    · by_cases e : q' = s
      · subst e; rw [u2_same]
      · rw [u2_idx e, u2_bank (by decide), g5 q' hq, u2_bank (by decide), u2_bank (by decide), u2_idx e]; exact bo 51 q' (by decide) (by decide)
    · exact MP_trans (MP_trans (MP_eq (fun k => fbit_eq (fun y => by rw [u2_bank (by decide), u2_bank (by decide), u2_bank (by decide), bo 67 y (by decide) (by decide)]))) g6) (MP_eq (fun k => fbit_eq (fun y => by rw [u2_bank (by decide), u2_bank (by decide)])))
theorem SpA_dpt {S a : Int} {ctx : List Int} (h : SpA B0 S a ctx) : dpt B0 a = ctx.length := by
  unfold dpt
  rw [h.2.2.2]
  omega
/-- a split: first x, then y -/
theorem S_split (H : HG m h0 d B0 G k0 k1 j0 j1 w7 bot lim W I O F A) {p u a S βx βy β x y : Int} {ctx : List Int} {L Kx Ky : qK} (a0 : 0 ≤ a) (a1 : a < 6000) (h42 : B0 42 a = 1) (h43 : B0 43 a = x) (h44 : B0 44 a = y) (ax : a < x) (ay : a < y) (y1 : y < 8192) (hS : S ≤ 2000) (hSp : SpA B0 S a ctx) (hCH : CH B0 ctx) (hgm : ∀ q ∈ ctx, gm q) (hG : G a = some L) (hKP : KP L) (hL : ∀ c, L p u c = Kx p u c ++ Ky p u c) (p0 : 0 ≤ p) (p1 : p ≤ B0 57 0) (hx : 0 ≤ βx) (hβx : βx + 1 ≤ β) (hβy : βy ≤ β)
    (rx : RnP B0 Bst G gm k0 k1 j0 j1 w7 bot lim W I O F p u x ctx Kx βx) (ry : RnP B0 Bst G gm k0 k1 j0 j1 w7 bot lim W I O F p u y ctx Ky βy) : RnP B0 Bst G gm k0 k1 j0 j1 w7 bot lim W I O F p u a ctx L β := by
  intro B c h hSt h68 h69 hC hc h66 hb hlim hI hO hF
  obtain ⟨t1, t2, t3, t4, t5⟩ := H.2.1
  have hd := SpA_dpt hSp
  obtain ⟨z0, z1, z2, z3⟩ := hSp
  have hu := Cn_u hC
  have e42 : B 42 a = B0 42 a := St_e hSt 42 a (by omega)
  have e43 : B 43 a = B0 43 a := St_e hSt 43 a (by omega)
  have e44 : B 44 a = B0 44 a := St_e hSt 44 a (by omega)
  have e45 : B 45 a = B0 45 a := St_e hSt 45 a (by omega)
  have e57 : B 57 0 = B0 57 0 := St_e hSt 57 0 (by omega)
  have e52 : B 52 (B0 45 a) = B0 52 (B0 45 a) := St_e hSt 52 _ (by omega)
  have e54 : B 54 (B0 45 a) = B0 54 (B0 45 a) := St_e hSt 54 _ (by omega)
  have hW : 0 ≤ (B0 57 0 - p) * W := Int.mul_nonneg (by omega) H.2.2.2.2.1
  have hl2 := H.2.2.2.1
  have hb0 := H.2.2.1
  have kr : Kr B0 a p u := ⟨p0, p1, hu.1, by rw [hd]; exact hu.2⟩
  obtain ⟨r1, r2, r3, r4⟩ := H.2.2.2.2.2.2.2.2.1 a L p u hG kr
  have hJ := H.2.2.2.2.2.2.2.2.2.1
  have ekn : kN B0 a u p = (B 54 (B 45 (B 68 0)) + u) * (B 57 0 + 1) + B 69 0 := by rw [h68, h69, e45, e57, e54]; rfl
  have hCH' : CH B ctx := CH_eq ctx (fun q _ => St_e hSt 53 q (by omega)) hCH
  refine H.1.1 B (R_one1 (d := d + 2) (u := u) (κ := kN B0 a u p) (ctx := ctx) H.2.2.2.2.2.2.2.1 (by rw [h68]; exact a0) (by rw [h68]; exact a1) (by rw [h68, e42]; exact h42) (by rw [h68, e45]; exact z0) (by rw [h68, e45]; omega) (by rw [h68, e45, e52]; exact z2) hCH' (by rw [h69]; exact hC) (by rw [h69]; exact ⟨by omega, by omega⟩) hSt.2.1 ekn r3 r4 (by rw [h66]; omega) (by rw [h66]; omega) (fun q => ⟨1, rfl, Or.inr (Or.inl ⟨rfl, ?_⟩)⟩) (fun q => ⟨0, rfl, Or.inl ⟨rfl, ?_⟩⟩))
  · exact fails hSt h66 hO (hI a L p u hG kr q (by rw [hd]; exact Int.le_refl _) c)
  · rw [h68, h69, e43, e44, h43, h44]
    have w66 : wsB B (kN B0 a u p) 66 0 = h := by unfold wsB; rw [u2_bank (by decide)]; exact h66
    have wo : ∀ b y, b ≠ 67 → wsB B (kN B0 a u p) b y = B b y := fun b y q => u2_bank q
    have wSt : St B0 Bst k0 k1 j0 j1 w7 bot (wsB B (kN B0 a u p)) := St_ws r1 r2 hSt
    have wf' : ∀ k, fbit (wsB B (kN B0 a u p)) k = (fbit B k || decide (k = kN B0 a u p)) := fun k => fbit_set k
    generalize wsB B (kN B0 a u p) = Wm at *
    have b66 : psB Wm (8192 * p + y) 66 0 = h + 1 := by rw [psB_66, w66]
    have b65 : psB Wm (8192 * p + y) 65 h = 8192 * p + y := by rw [← w66]; exact psB_top
    have b65l : ∀ z, z < h → psB Wm (8192 * p + y) 65 z = B 65 z := fun z hz => by rw [psB_low (by omega)]; exact wo 65 z (by decide)
    have bo : ∀ b z, b ≠ 65 → b ≠ 66 → psB Wm (8192 * p + y) b z = Wm b z := fun b z q1 q2 => psB_oth q1 q2
    have bSt : St B0 Bst k0 k1 j0 j1 w7 bot (psB Wm (8192 * p + y)) := St_ps (by omega) wSt
    generalize psB Wm (8192 * p + y) = P at *
    have pf : ∀ k, fbit P k = (fbit B k || decide (k = kN B0 a u p)) := fun k => by rw [fbit_eq (B := Wm) (fun z => bo 67 z (by decide) (by decide))]; exact wf' k
    -- what is noted, but for this place, is known
    have key : ∀ μ, μ < ms B0 a p (ctx.length - u) → Inv B0 G P μ := by
      intro μ hμ pc' L' p' u' hG' kr' hf hm'
      rw [pf, Bool.or_eq_true] at hf
      rcases hf with hf | hf
      · exact hI pc' L' p' u' hG' kr' hf (by omega)
      · obtain ⟨i1, i2, i3⟩ := hJ pc' L' p' u' a L p u hG' hG kr' kr (of_decide_eq_true hf)
        subst i1
        subst i2
        subst i3
        rw [hd] at hm'
        omega
    refine rx (u2 P 68 0 x) c (h + 1) (St_free (by omega) bSt) u2_same (by rw [u2_bank (by decide), bo 69 0 (by decide) (by decide), wo 69 0 (by decide)]; exact h69) (Cn_eq hC (fun q _ => by rw [u2_bank (by decide), bo 51 q (by decide) (by decide), wo 51 q (by decide)])) (fun i i0 i1 => by rw [u2_bank (by decide), bo 49 i (by decide) (by decide), wo 49 i (by decide)]; exact hc i i0 i1) (by rw [u2_bank (by decide)]; exact b66) (by omega) (by omega) (Inv_mono (key (ms B0 x p (ctx.length - u)) (by unfold ms; omega)) (Int.le_refl _) (fun k => fbit_eq (fun z => u2_bank (by decide)))) (fun qx B2 hP => ?_) (fun o r e => hF o (r ++ Ky p u c) (by rw [hL c, e, List.cons_append]))
    obtain ⟨g1, g2, g3, g4, g5, g6⟩ := hP
    have q65 : B2 65 h = 8192 * p + y := by rw [g3 h (by omega), u2_bank (by decide)]; exact b65
    have mpP : MP B0 G P B2 := MP_trans (MP_eq (fun k => fbit_eq (fun z => u2_bank (by decide)))) g6
    refine H.1.2.1 B2 h p y g2 hb (by omega) q65 (by omega) y1 p0 (by omega) ?_
    refine ry (u2 (u2 (u2 B2 66 0 h) 68 0 y) 69 0 p) c h (St_free (by omega) (St_free (by omega) (St_free (by omega) g1))) (by rw [u2_bank (by decide), u2_same]) u2_same (Cn_eq hC (fun q hq => ?_)) (fun i i0 i1 => ?_) (by rw [u2_bank (by decide), u2_bank (by decide), u2_same]) hb (by omega) ?_ (fun qy B4 hP4 => ?_) (fun o r e => hF o r (by rw [hL c, qx, List.nil_append]; exact e))
    · rw [u2_bank (by decide), u2_bank (by decide), u2_bank (by decide), g5 q (hgm q hq), u2_bank (by decide), bo 51 q (by decide) (by decide), wo 51 q (by decide)]
    · rw [u2_bank (by decide), u2_bank (by decide), u2_bank (by decide), g4 i i0 i1, u2_bank (by decide), bo 49 i (by decide) (by decide), wo 49 i (by decide)]; exact hc i i0 i1
    · have h3 : Inv B0 G B2 (ms B0 y p (ctx.length - u)) := by
        intro pc' L' p' u' hG' kr' hf hm'
        rcases mpP pc' L' p' u' hG' kr' hf with w | w
        · exact key (ms B0 y p (ctx.length - u)) (by unfold ms; omega) pc' L' p' u' hG' kr' w hm'
        · exact w
      exact Inv_mono h3 (Int.le_refl _) (fun k => fbit_eq (fun z => by rw [u2_bank (by decide), u2_bank (by decide), u2_bank (by decide)]))
    · have hLn : L p u c = [] := by rw [hL c, qx, qy]; rfl
      refine hO hLn B4 (PF_from (fun z hz => ?_) (fun i i0 i1 => ?_) (fun q hq => ?_) ?_ hP4)
      · rw [u2_bank (by decide), u2_bank (by decide), u2_bank (by decide), g3 z (by omega), u2_bank (by decide)]; exact b65l z hz
      · rw [u2_bank (by decide), u2_bank (by decide), u2_bank (by decide), g4 i i0 i1, u2_bank (by decide), bo 49 i (by decide) (by decide), wo 49 i (by decide)]
      · rw [u2_bank (by decide), u2_bank (by decide), u2_bank (by decide), g5 q hq, u2_bank (by decide), bo 51 q (by decide) (by decide), wo 51 q (by decide)]
      · have mpB : MP B0 G B P := by
          intro pc' L' p' u' hG' kr' hf
          rw [pf, Bool.or_eq_true] at hf
          rcases hf with hf | hf
          · exact Or.inl hf
          · obtain ⟨i1, i2, i3⟩ := hJ pc' L' p' u' a L p u hG' hG kr' kr (of_decide_eq_true hf)
            subst i1
            subst i2
            subst i3
            have : L' = L := by rw [hG'] at hG; exact Option.some.inj hG
            subst this
            exact Or.inr (fun c' => (pl_nil (hKP _ _ c c')).mp hLn)
        exact MP_trans (MP_trans mpB mpP) (MP_eq (fun k => fbit_eq (fun z => by rw [u2_bank (by decide), u2_bank (by decide), u2_bank (by decide)])))
end STEP
