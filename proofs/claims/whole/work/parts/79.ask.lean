/-! THE REFERENCE'S SEARCH: questions among the ways, all trees -/
section SASK
variable {B0 Bst : qB} {G : qG} {gm : Int → Prop} {k0 k1 j0 j1 : Int} {w7 : Prop} {bot lim W : Int} {I O F A : qB → Prop} {m : Nat} {h0 : qH} {d : Nat}
set_option maxHeartbeats 4000000 in
theorem S_ask (H : HG m h0 d B0 G k0 k1 j0 j1 w7 bot lim W I O F A) (hASK : ASK m h0 d B0 k0 k1 w7 I O A) {p u a y S β β1 J q pw nsl kd : Int} {ctx : List Int} {L K : qK} {Db : Int → qCp → qWs} {slx : List Int} (a0 : 0 ≤ a) (ay : a + 1 < y) (y1 : y < B0 46 0 ∧ B0 46 0 ≤ 5991) (h42 : B0 42 a = 6) (h43 : B0 43 a = kd) (hk : kd = 0 ∨ kd = 1 ∨ kd = 2) (h44 : B0 44 a = y) (hD : B0 42 (y - 1) = 11) (hS : S ≤ 2000) (hSp : SpA B0 S a ctx) (hCH : CH B0 ctx) (hgm : ∀ r ∈ ctx, gm r ∧ r < J) (hl : ctx.length ≤ 12) (hG : G a = some L) (hKP : KP L) (hGn : ∀ pc, a < pc → pc < y → G pc = none) (hgn : ∀ r, J ≤ r → r < J + q → ¬ gm r) (q0 : j0 ≤ J) (q1 : J + q ≤ j1) (pw0 : 0 ≤ pw) (hroom : lim + 2002 * pw ≤ 2499000) (hBody : BodyOK m h0 d B0 a y J q pw Db) (hRg : Rg (B0 57 0) Db) (hCh : Chg Db slx) (hsl : (slx.length : Int) ≤ nsl)
    (hL : ∀ c, L p u c = match Db p c with
      | [] => if kd = 2 then K p u c else []
      | o :: _ => if kd = 2 then [] else if kd = 0 then K o.1 (if o.1 = p then u else 0) o.2 else K p u o.2)
    (p0 : 0 ≤ p) (p1 : p ≤ B0 57 0) (hβ : 0 ≤ β) (hβ1 : β1 ≤ W + β) (r : RnP B0 Bst G gm k0 k1 j0 j1 w7 bot lim W I O F p u y ctx K β) (r' : ∀ p', p < p' → p' ≤ B0 57 0 → RnP B0 Bst G gm k0 k1 j0 j1 w7 bot lim W I O F p' 0 y ctx K β1) : RnP B0 Bst G gm k0 k1 j0 j1 w7 bot lim W I O F p u a ctx L (β + nsl) := by
  intro B c h hSt h68 h69 hC hc h66 hb hlim hI hO hF
  have hT := H.2.1
  obtain ⟨t1, t2, t3, t4, t5⟩ := H.2.1
  obtain ⟨aGI, asp, aK, ak0, ak1, aw7, aask⟩ := hASK
  have hd := SpA_dpt hSp
  obtain ⟨z0, z1, z2, z3⟩ := hSp
  have hu := Cn_u hC
  have e42 : B 42 a = B0 42 a := St_e hSt 42 a (by omega)
  have e45 : B 45 a = B0 45 a := St_e hSt 45 a (by omega)
  have e57 : B 57 0 = B0 57 0 := St_e hSt 57 0 (by omega)
  have e52 : B 52 (B0 45 a) = B0 52 (B0 45 a) := St_e hSt 52 _ (by omega)
  have e54 : B 54 (B0 45 a) = B0 54 (B0 45 a) := St_e hSt 54 _ (by omega)
  have hW : 0 ≤ (B0 57 0 - p) * W := Int.mul_nonneg (by omega) H.2.2.2.2.1
  have hl2 := H.2.2.2.1
  have hb0 := H.2.2.1
  have hj0 := H.2.2.2.2.2.1
  have hj1 := H.2.2.2.2.2.2.1
  have nsl0 : 0 ≤ nsl := by omega
  have kr : Kr B0 a p u := ⟨p0, p1, hu.1, by rw [hd]; exact hu.2⟩
  obtain ⟨r1, r2, r3, r4⟩ := H.2.2.2.2.2.2.2.2.1 a L p u hG kr
  have hJ := H.2.2.2.2.2.2.2.2.2.1
  have hdom := H.2.2.2.2.2.2.2.2.2.2
  have ekn : kN B0 a u p = (B 54 (B 45 (B 68 0)) + u) * (B 57 0 + 1) + B 69 0 := by rw [h68, h69, e45, e57, e54]; rfl
  have hCH' : CH B ctx := CH_eq ctx (fun q _ => St_e hSt 53 q (by omega)) hCH
  refine H.1.1 B (R_one6 (d := d + 2) (u := u) (κ := kN B0 a u p) (ctx := ctx) H.2.2.2.2.2.2.2.1 (by rw [h68]; exact a0) (by rw [h68]; omega) (by rw [h68, e42]; exact h42) (by rw [h68, e45]; exact z0) (by rw [h68, e45]; omega) (by rw [h68, e45, e52]; exact z2) hCH' (by rw [h69]; exact hC) (by rw [h69]; exact ⟨by omega, by omega⟩) hSt.2.1 ekn r3 r4 (fun qf => ⟨1, rfl, Or.inr (Or.inl ⟨rfl, ?_⟩)⟩) (fun qf => ⟨3, rfl, Or.inr (Or.inr (Or.inr ⟨rfl, ?_⟩))⟩))
  · exact fails hSt h66 hO (hI a L p u hG kr qf (by rw [hd]; exact Int.le_refl _) c)
  have wo : ∀ b z, b ≠ 67 → wsB B (kN B0 a u p) b z = B b z := fun b z q => u2_bank q
  have wSt : St B0 Bst k0 k1 j0 j1 w7 bot (wsB B (kN B0 a u p)) := St_ws r1 r2 hSt
  have wf' : ∀ k, fbit (wsB B (kN B0 a u p)) k = (fbit B k || decide (k = kN B0 a u p)) := fun k => fbit_set k
  generalize wsB B (kN B0 a u p) = Wm at *
  -- notes of this level lie outside the question's
  have hza : zz B0 (a + 1) = B0 45 a + 1 := by
    have := aGI.2.2.2.2 a a0 (by omega)
    rw [if_pos (Or.inr h42)] at this
    exact this
  obtain ⟨za, zb⟩ := zz_in aGI a0 (show a < B0 46 0 by omega) (Or.inr h42)
  have out : ∀ pc L' p' u', G pc = some L' → Kr B0 pc p' u' → ¬ (B0 54 (zz B0 (a + 1)) * (B0 57 0 + 1) ≤ kN B0 pc u' p' ∧ kN B0 pc u' p' < B0 54 (zz B0 (y - 1)) * (B0 57 0 + 1)) := by
    intro pc L' p' u' hG' kr' hin
    obtain ⟨d1, d2, d3⟩ := hdom pc L' hG'
    obtain ⟨y0, y2⟩ := zz_in aGI d1 d2 d3
    by_cases hpc : pc ≤ a
    · have hz : B0 45 pc ≤ B0 45 a := by
        have := zz_mono aGI d1 hpc (by omega)
        rw [zz_at d2, zz_at (by omega)] at this
        exact this
      have := key_in aGI t1 y0 kr' (Int.le_refl 0) y0 (show B0 45 pc + 1 ≤ B0 45 a + 1 by omega) (by omega)
      rw [hza] at hin
      omega
    · by_cases hpy : pc < y
      · rw [hGn pc (by omega) hpy] at hG'
        exact absurd hG' (by simp)
      · have hz := zz_mono aGI (show 0 ≤ y - 1 by omega) (show y - 1 ≤ pc by omega) (by omega)
        rw [zz_at d2] at hz
        have hz0 := zz_mono aGI (Int.le_refl 0) (show 0 ≤ y - 1 by omega) (by omega)
        rw [aGI.2.2.2.1] at hz0
        have := key_in aGI t1 y0 kr' hz0 hz (Int.le_refl _) y2
        omega
  have sub1 : B0 54 (zz B0 (y - 1)) * (B0 57 0 + 1) ≤ k1 := by
    have hz := zz_mono aGI (show 0 ≤ y - 1 by omega) (show y - 1 ≤ B0 46 0 by omega) (Int.le_refl _)
    rw [zz_top] at hz
    have hz0 := zz_mono aGI (Int.le_refl 0) (show 0 ≤ y - 1 by omega) (by omega)
    rw [aGI.2.2.2.1] at hz0
    have := GI_le aGI hz0 hz (Int.le_refl _)
    rw [aGI.1] at this
    have := Int.mul_le_mul_of_nonneg_right (show B0 54 (zz B0 (y - 1)) ≤ B0 56 0 by omega) (show 0 ≤ B0 57 0 + 1 by omega)
    omega
  have sub0 : k0 ≤ B0 54 (zz B0 (a + 1)) * (B0 57 0 + 1) := by
    rw [hza]
    have := GI_le aGI (Int.le_refl 0) (show 0 ≤ B0 45 a + 1 by omega) zb
    rw [aGI.2.1] at this
    have := Int.mul_nonneg (show 0 ≤ B0 54 (B0 45 a + 1) by omega) (show 0 ≤ B0 57 0 + 1 by omega)
    omega
  have key : ∀ μ B', (∀ pc L' p' u', G pc = some L' → Kr B0 pc p' u' → fbit B' (kN B0 pc u' p') = fbit Wm (kN B0 pc u' p')) → μ < ms B0 a p (ctx.length - u) → Inv B0 G B' μ := by
    intro μ B' hB' hμ pc' L' p' u' hG' kr' hf hm'
    rw [hB' pc' L' p' u' hG' kr', wf', Bool.or_eq_true] at hf
    rcases hf with hf | hf
    · exact hI pc' L' p' u' hG' kr' hf (by omega)
    · obtain ⟨i1, i2, i3⟩ := hJ pc' L' p' u' a L p u hG' hG kr' kr (of_decide_eq_true hf)
      subst i1
      subst i2
      subst i3
      rw [hd] at hm'
      omega
  have mpW : L p u c = [] → ∀ B', (∀ pc L' p' u', G pc = some L' → Kr B0 pc p' u' → fbit B' (kN B0 pc u' p') = fbit Wm (kN B0 pc u' p')) → MP B0 G B B' := by
    intro hLn B' hB' pc' L' p' u' hG' kr' hf
    rw [hB' pc' L' p' u' hG' kr', wf', Bool.or_eq_true] at hf
    rcases hf with hf | hf
    · exact Or.inl hf
    · obtain ⟨i1, i2, i3⟩ := hJ pc' L' p' u' a L p u hG' hG kr' kr (of_decide_eq_true hf)
      subst i1
      subst i2
      subst i3
      have : L' = L := by rw [hG'] at hG; exact Option.some.inj hG
      subst this
      exact Or.inr (fun c' => (pl_nil (hKP _ _ c c')).mp hLn)
  have toSt : ∀ B', AF B0 Wm a y J q h B' → St B0 Bst k0 k1 j0 j1 w7 bot B' := by
    intro B' hs
    obtain ⟨s1, s2, s3, s4, s5, s6⟩ := hs
    exact ⟨s1, s2, s3, fun z hz => (s4 z (by omega)).trans (wSt.2.2.2.1 z hz), fun κ hκ => (s5 κ (by omega)).trans (wSt.2.2.2.2.1 κ hκ), fun r hr => (s6 r (by omega)).trans (wSt.2.2.2.2.2.1 r hr), fun w => absurd w aw7⟩
  have bitA : ∀ B', AF B0 Wm a y J q h B' → ∀ pc L' p' u', G pc = some L' → Kr B0 pc p' u' → fbit B' (kN B0 pc u' p') = fbit Wm (kN B0 pc u' p') := fun B' hs pc L' p' u' hG' kr' => hs.2.2.2.2.1 _ (out pc L' p' u' hG' kr')
  have gmA : ∀ B', AF B0 Wm a y J q h B' → ∀ r, gm r → B' 51 r = B 51 r := fun B' hs r hr => (hs.2.2.2.2.2 r (fun w => hgn r w.1 w.2 hr)).trans (wo 51 r (by decide))
  -- back to what the slots were
  have back : ∀ (ws : List Int) (B' : qB), B' 66 0 = h + ws.length → h + ws.length ≤ 2500000 → stk (B' 65) h (Wm 49) ws → St B0 Bst k0 k1 j0 j1 w7 bot B' → (∀ z, z < h → B' 65 z = B 65 z) → (∀ i, 0 ≤ i → i < 20 → ¬ i ∈ ws → B' 49 i = Wm 49 i) → (∀ r, gm r → B' 51 r = B 51 r) → MP B0 G B B' → L p u c = [] → O B' := by
    intro ws B' n1 n2 n3 n4 n5 n6 n7 n8 n9
    refine unwind (bot := bot) (h := h) (was := Wm 49) H.1.2.2.1 (fun s s0 s1 => wSt.2.2.1 s s0 s1) hb ws B' n1 n2 n3 (fun B2 e1 e2 e3 => ?_)
    have c49 : ∀ i, 0 ≤ i → i < 20 → B2 49 i = B 49 i := by
      intro i i0 i1
      rw [e3 i]
      by_cases hi : i ∈ ws
      · rw [if_pos hi]; exact wo 49 i (by decide)
      · rw [if_neg hi, n6 i i0 i1 hi]; exact wo 49 i (by decide)
    refine hO n9 B2 ⟨?_, e1, fun z hz => (e2 65 z (by decide) (by decide)).trans (n5 z hz), c49, fun r hr => (e2 51 r (by decide) (by decide)).trans (n7 r hr), MP_trans n8 (MP_eq (fun k => fbit_eq (fun z => e2 67 z (by decide) (by decide))))⟩
    obtain ⟨s1, s2, s3, s4, s5, s6, s7⟩ := n4
    refine ⟨fun b z hs => (e2 b z (by unfold SB at hs; omega) (by unfold SB at hs; omega)).trans (s1 b z hs), fun r r0 r1 => by rw [e2 51 r (by decide) (by decide)]; exact s2 r r0 r1, fun i i0 i1 => by rw [c49 i i0 i1]; exact hSt.2.2.1 i i0 i1, fun z hz => (e2 65 z (by decide) (by decide)).trans (s4 z hz), fun κ hκ => (fbit_eq (fun z => e2 67 z (by decide) (by decide))).trans (s5 κ hκ), fun r hr => (e2 51 r (by decide) (by decide)).trans (s6 r hr), fun w => absurd w aw7⟩
  refine aask Wm (R_asked (c := c) (h := h) (pw := pw) (slx := slx) H.2.2.2.2.2.2.2.1 hT aGI y1.2 asp aK a0 ay y1.1 h42 h43 hk h44 hD (by omega) (by omega) pw0 hBody hRg hCh wSt.1 wSt.2.1 wSt.2.2.1 ((wo 66 0 (by decide)).trans h66) ((wo 68 0 (by decide)).trans h68) ((wo 69 0 (by decide)).trans h69) (by omega) (by omega) p0 p1 (fun i i0 i1 => (wo 49 i (by decide)).trans (hc i i0 i1)) (fun o t e B' ws hAF n1 n2 n3 n4 n5 => ⟨fun h2 => ⟨1, rfl, Or.inr ⟨rfl, ?_⟩⟩, fun h2 => ⟨0, rfl, Or.inl ⟨rfl, ?_⟩⟩⟩) (fun e B' hAF n1 n2 => ⟨fun h2 => ⟨0, rfl, Or.inl ⟨rfl, ?_⟩⟩, fun h2 => ⟨1, rfl, Or.inr ⟨rfl, ?_⟩⟩⟩))
  · have hLn : L p u c = [] := by rw [hL c, e]; exact if_pos h2
    exact back ws B' n1 (by omega) n3 (toSt B' hAF) (fun z hz => (hAF.2.2.2.1 z hz).trans (wo 65 z (by decide))) n4 (gmA B' hAF) (mpW hLn B' (bitA B' hAF)) hLn
  · -- it goes on behind the question
    have hr := hRg p c p0 p1 o (by rw [e]; exact List.mem_cons_self ..)
    have hLc : L p u c = K (if kd = 0 then o.1 else p) (if (if kd = 0 then o.1 else p) = p then u else 0) o.2 := by
      rw [hL c, e]
      show (if kd = 2 then [] else if kd = 0 then K o.1 (if o.1 = p then u else 0) o.2 else K p u o.2) = _
      rw [if_neg h2]
      by_cases hz : kd = 0
      · rw [if_pos hz, if_pos hz]
      · rw [if_neg hz, if_neg hz, if_pos rfl]
    rw [hLc] at hO hF
    have hp' : p ≤ (if kd = 0 then o.1 else p) ∧ (if kd = 0 then o.1 else p) ≤ B0 57 0 := by
      split
      · exact hr
      · exact ⟨Int.le_refl _, p1⟩
    have Cctx : ∀ r ∈ ctx, B' 51 r = B 51 r := fun r hr => gmA B' hAF r (hgm r hr).1
    generalize (if kd = 0 then o.1 else p) = p' at *
    have ho : ∀ b z, b ≠ 68 → b ≠ 69 → u2 (u2 B' 69 0 p') 68 0 y b z = B' b z := fun b z q1 q2 => by rw [u2_bank q1, u2_bank q2]
    have fail : K p' (if p' = p then u else 0) o.2 = [] → ∀ B2, PF B0 Bst G gm k0 k1 j0 j1 w7 bot (u2 (u2 B' 69 0 p') 68 0 y) B2 (h + ws.length) → O B2 := by
      intro hn B2 hP
      obtain ⟨g1, g2, g3, g4, g5, g6⟩ := hP
      have hLn : L p u c = [] := by rw [hLc]; exact hn
      refine back ws B2 g2 (by omega) (stk_eq ws (fun z z0 z1 => by rw [g3 z z1]; exact ho 65 z (by decide) (by decide)) n3) g1 (fun z hz => by rw [g3 z (by omega), ho 65 z (by decide) (by decide), hAF.2.2.2.1 z hz]; exact wo 65 z (by decide)) (fun i i0 i1 hi => by rw [g4 i i0 i1, ho 49 i (by decide) (by decide)]; exact n4 i i0 i1 hi) (fun r hr => by rw [g5 r hr, ho 51 r (by decide) (by decide)]; exact gmA B' hAF r hr) (MP_trans (MP_trans (mpW hLn B' (bitA B' hAF)) (MP_eq (fun k => fbit_eq (fun z => ho 67 z (by decide) (by decide))))) g6) hLn
    by_cases hpp : p' = p
    · subst hpp
      rw [if_pos rfl] at hO hF fail
      refine r (u2 (u2 B' 69 0 p') 68 0 y) o.2 (h + ws.length) (St_free (by omega) (St_free (by omega) (toSt B' hAF))) u2_same (by rw [u2_bank (by decide), u2_same]) (Cn_eq hC (fun r hr => by rw [ho 51 r (by decide) (by decide)]; exact Cctx r hr)) (fun i i0 i1 => by rw [ho 49 i (by decide) (by decide)]; exact n5 i i0 i1) (by rw [ho 66 0 (by decide) (by decide)]; exact n1) (by omega) (by omega) (Inv_mono (key (ms B0 y p' (ctx.length - u)) B' (bitA B' hAF) (by unfold ms; omega)) (Int.le_refl _) (fun k => fbit_eq (fun z => ho 67 z (by decide) (by decide)))) fail hF
    · rw [if_neg hpp] at hO hF fail
      have hmw : (B0 57 0 - p') * W + W ≤ (B0 57 0 - p) * W := by
        have := Int.mul_le_mul_of_nonneg_right (show B0 57 0 - p' + 1 ≤ B0 57 0 - p by omega) H.2.2.2.2.1
        rw [Int.add_mul, Int.one_mul] at this
        exact this
      refine r' p' (by omega) hp'.2 (u2 (u2 B' 69 0 p') 68 0 y) o.2 (h + ws.length) (St_free (by omega) (St_free (by omega) (toSt B' hAF))) u2_same (by rw [u2_bank (by decide), u2_same]) (Cn_mv (p := p) (fun r hr => by rw [ho 51 r (by decide) (by decide), Cctx r hr]; exact Cn_le hC r hr) (by omega)) (fun i i0 i1 => by rw [ho 49 i (by decide) (by decide)]; exact n5 i i0 i1) (by rw [ho 66 0 (by decide) (by decide)]; exact n1) (by omega) (by omega) (Inv_mono (key (ms B0 y p' (ctx.length - 0)) B' (bitA B' hAF) (by unfold ms; omega)) (Int.le_refl _) (fun k => fbit_eq (fun z => ho 67 z (by decide) (by decide)))) fail hF
  · have hLc : L p u c = K p u c := by rw [hL c, e]; exact if_pos h2
    rw [hLc] at hO hF
    have ho : ∀ b z, b ≠ 68 → b ≠ 69 → u2 (u2 B' 69 0 p) 68 0 y b z = B' b z := fun b z q1 q2 => by rw [u2_bank q1, u2_bank q2]
    have Cctx : ∀ r ∈ ctx, B' 51 r = B 51 r := fun r hr => gmA B' hAF r (hgm r hr).1
    refine r (u2 (u2 B' 69 0 p) 68 0 y) c h (St_free (by omega) (St_free (by omega) (toSt B' hAF))) u2_same (by rw [u2_bank (by decide), u2_same]) (Cn_eq hC (fun r hr => by rw [ho 51 r (by decide) (by decide)]; exact Cctx r hr)) (fun i i0 i1 => by rw [ho 49 i (by decide) (by decide), n2 i i0 i1, wo 49 i (by decide)]; exact hc i i0 i1) (by rw [ho 66 0 (by decide) (by decide)]; exact n1) hb (by omega) (Inv_mono (key (ms B0 y p (ctx.length - u)) B' (bitA B' hAF) (by unfold ms; omega)) (Int.le_refl _) (fun k => fbit_eq (fun z => ho 67 z (by decide) (by decide)))) (fun hn B2 hP => hO hn B2 (PF_from (fun z hz => by rw [ho 65 z (by decide) (by decide), hAF.2.2.2.1 z hz]; exact wo 65 z (by decide)) (fun i i0 i1 => by rw [ho 49 i (by decide) (by decide), n2 i i0 i1]; exact wo 49 i (by decide)) (fun r hr => by rw [ho 51 r (by decide) (by decide)]; exact gmA B' hAF r hr) (MP_trans (mpW (by rw [hLc]; exact hn) B' (bitA B' hAF)) (MP_eq (fun k => fbit_eq (fun z => ho 67 z (by decide) (by decide))))) hP)) hF
  · have hLn : L p u c = [] := by rw [hL c, e]; exact if_neg h2
    exact back [] B' (by rw [n1]; simp) (by simp; omega) trivial (toSt B' hAF) (fun z hz => (hAF.2.2.2.1 z hz).trans (wo 65 z (by decide))) (fun i i0 i1 _ => n2 i i0 i1) (gmA B' hAF) (mpW hLn B' (bitA B' hAF)) hLn
end SASK
