/-! THE CLASS'S WALKER: a walk finds the first way -/
section RUN
variable (h1 : qH) (c0 s0 : Int) (a t : Nat) (n te : Int) (P : qP) (H : Int → Nat → Option Bool) (tx : Int → Int) (K : Nat) (Mx : Int)
/-- the walk succeeded with o: memory -/
def OKp (lv : Int) (S : List Int) (L : Int → Int) (r : Int) (c : qCp) (o : Int × qCp) (B B' : qB) : Prop := WI c0 s0 a t n te P H tx K B' ∧ WF B B' ∧ RSn n te P H tx K Mx B' ∧ (∀ κ, 0 ≤ κ → rv B κ ≤ rv B' κ ∧ rv B' κ ≤ L κ) ∧ (B 103 1 ≤ B' 103 1 ∧ B' 103 1 ≤ B 103 1 + r) ∧ PSm B B' (B 103 1) ∧ MKs B' o.2 ∧ UN lv S B' (B 103 1) c o.2
/-- the walk has tried all ways in vain: memory -/
def NOp (L : Int → Int) (ch : Int) (c : qCp) (B : qB) (k : Int) (B' : qB) (k' : Int) : Prop := WI c0 s0 a t n te P H tx K B' ∧ WF B B' ∧ RSn n te P H tx K Mx B' ∧ (∀ κ, 0 ≤ κ → rv B κ ≤ rv B' κ ∧ rv B' κ ≤ L κ) ∧ B' 103 1 = B 103 1 ∧ PSm B B' (B 103 1) ∧ MKs B' c ∧ k ≤ k' ∧ Psi K Mx L B' k' + 1 ≤ Psi K Mx L B k + ch
/-- what stands at the beginning of a walk -/
def BEp (L : Int → Int) (s p u r ch : Int) (c : qCp) (B : qB) (k : Int) : Prop := WI c0 s0 a t n te P H tx K B ∧ AtS B s p u ∧ (0 ≤ p ∧ p ≤ n) ∧ MKs B c ∧ (∀ i, 0 ≤ i → i < 20 → -1 ≤ c i ∧ c i ≤ n) ∧ RSn n te P H tx K Mx B ∧ ((∀ κ, 0 ≤ κ → rv B κ ≤ L κ) ∧ Lim n P Mx L s p u) ∧ B 103 1 + r ≤ 1048576 ∧ 0 ≤ k ∧ Psi K Mx L B k + ch ≤ 1000000000
def RunQ (f : Nat) (C : Int → Prop) : Prop := ∀ (lv : Int) (S : List Int) (s p u r ch : Int) (c : qCp) (L : Int → Int) (B : qB) (k hgt : Int) (Q : qO → qB → Prop) (d : Nat), C s → (lv = 0 ∧ 14 ≤ d ∨ lv = 1 ∧ 9 ≤ d) → Tm n P Mx f lv S s p u r ch → BEp c0 s0 a t n te P H tx K Mx L s p u r ch c B k → 0 ≤ hgt ∧ hgt ≤ B 103 1 →
  (∀ o rest, Ww n tx te P H f lv s p u c = o :: rest → ∀ B', OKp c0 s0 a t n te P H tx K Mx lv S L r c o B B' → Q (.inl (some (iv o.1))) B') →
  (Ww n tx te P H f lv s p u c = [] → ∀ B' k', NOp c0 s0 a t n te P H tx K Mx L ch c B k B' k' → Fl h1 d lv hgt Q k' B') → Lp h1 d lv hgt Q k B
variable {h1 c0 s0 a t n te P H tx K Mx}
theorem NOp.self {L : Int → Int} {s p u r ch : Int} {c : qCp} {B : qB} {k : Int} (h : BEp c0 s0 a t n te P H tx K Mx L s p u r ch c B k) (hc : 1 ≤ ch) : NOp c0 s0 a t n te P H tx K Mx L ch c B k B k := ⟨h.1, WF.refl, h.2.2.2.2.2.1, fun κ k0 => ⟨Int.le_refl _, h.2.2.2.2.2.2.1.1 κ k0⟩, rfl, fun _ _ _ => rfl, h.2.2.2.1, Int.le_refl _, by omega⟩
/-- after a move -/
theorem Run_mv {f : Nat} (ih : RunQ h1 c0 s0 a t n te P H tx K Mx f (fun _ => True)) {lv : Int} {S : List Int} {s p u r ch : Int} {c : qCp} {L : Int → Int} {B : qB} {k hgt : Int} {Q : qO → qB → Prop} {d : Nat} {s1 p1 u1 : Int} {B1 : qB} (hd : lv = 0 ∧ 14 ≤ d ∨ lv = 1 ∧ 9 ≤ d) (hB : BEp c0 s0 a t n te P H tx K Mx L s p u r ch c B k) (hh : 0 ≤ hgt ∧ hgt ≤ B 103 1) (hT : Tm n P Mx f lv S s1 p1 u1 r (ch - 1)) (hM : MV c0 s0 B B1 s1 p1 u1) (hp1 : 0 ≤ p1 ∧ p1 ≤ n) (hr : Rch n P Mx s p u s1 p1 u1)
    (ok : ∀ o rest, Ww n tx te P H f lv s1 p1 u1 c = o :: rest → ∀ B', OKp c0 s0 a t n te P H tx K Mx lv S L r c o B B' → Q (.inl (some (iv o.1))) B')
    (no : Ww n tx te P H f lv s1 p1 u1 c = [] → ∀ B' k', NOp c0 s0 a t n te P H tx K Mx L ch c B k B' k' → Fl h1 d lv hgt Q k' B') : Lp h1 d lv hgt Q (k + 1) B1 := by
  obtain ⟨b1, b2, b3, b4, b5, b6, ⟨b7, b8⟩, b9, b10, b11⟩ := hB
  obtain ⟨m1, m2, m3, m4, m5, m6, m7⟩ := MV_all hM b1
  have ps : Psi K Mx L B1 (k + 1) = Psi K Mx L B k + 1 := by rw [Psi_k, Psi_same m3]
  refine ih lv S s1 p1 u1 r (ch - 1) c L B1 (k + 1) hgt Q d trivial hd hT ⟨m1, m7, hp1, fun i i0 i1 => by rw [m6]; exact b4 i i0 i1, b5, RSn_same b6 m3, ⟨fun κ k0 => by rw [m3]; exact b7 κ k0, Lim_up b8 hr⟩, by rw [m4]; exact b9, by omega, by omega⟩ (by rw [m4]; exact hh) (fun o rest hw B' hB' => ok o rest hw B' ?_) (fun hw B' k' hB' => no hw B' k' ?_)
  · obtain ⟨q1, q2, q3, q4, q5, q6, q7, q8⟩ := hB'
    rw [m4] at q5 q6 q8
    exact ⟨q1, m2.tr q2, q3, fun κ k0 => by have := q4 κ k0; rw [m3] at this; exact this, q5, (m5 _).tr q6, q7, q8⟩
  · obtain ⟨q1, q2, q3, q4, q5, q6, q7, q8, q9⟩ := hB'
    rw [m4] at q5 q6
    exact ⟨q1, m2.tr q2, q3, fun κ k0 => by have := q4 κ k0; rw [m3] at this; exact this, q5, (m5 _).tr q6, q7, by omega, by omega⟩
theorem UN_way {lv : Int} {S : List Int} {B : qB} {z : Int} {c c' : qCp} (hz : z < B 103 1) (he : enO (B (pe B) z)) (hk : B (pe B) z / 16777216 ≠ 2) (h : UN lv S B (z + 1) c c') : UN lv S B z c c' := by
  refine ⟨fun j j0 j1 => ?_, fun i i0 i1 => ?_⟩
  · by_cases e : j = z
    · subst e; exact ⟨he, fun q => absurd q hk⟩
    · exact h.1 j (by omega) j1
  · rcases h.2 i i0 i1 with ⟨j, q1, q2, q3, q4, q5⟩ | ⟨q1, q2⟩
    · refine Or.inl ⟨j, by omega, q2, q3, fun j' j0 j1 => ?_, q5⟩
      by_cases e : j' = z
      · subst e; exact fun w => hk w.1
      · exact q4 j' (by omega) j1
    · refine Or.inr ⟨fun j j0 j1 => ?_, q2⟩
      by_cases e : j = z
      · subst e; exact fun w => hk w.1
      · exact q1 j (by omega) j1
theorem UN_mark {lv : Int} {S : List Int} {B : qB} {z i0 p : Int} {c c' : qCp} (hz : z < B 103 1) (he : enO (B (pe B) z)) (hk : isU i0 (B (pe B) z)) (hi : 0 ≤ i0 ∧ i0 < 20) (hv : B (pe B) z % 1024 - 1 = c i0) (hS : lv = 1 → i0 ∈ S) (h : UN lv S B (z + 1) (upc c i0 p) c') : UN lv S B z c c' := by
  refine ⟨fun j j0 j1 => ?_, fun i i1 i2 => ?_⟩
  · by_cases e : j = z
    · subst e; exact ⟨he, fun _ => by have := hk.2; omega⟩
    · exact h.1 j (by omega) j1
  · by_cases ei : i = i0
    · subst ei
      exact Or.inl ⟨z, Int.le_refl _, hz, hk, fun j' j0 j1 => by omega, hv, hS⟩
    · have hne : ¬ isU i (B (pe B) z) := fun w => ei (by have := w.2; have := hk.2; omega)
      have hc : upc c i0 p i = c i := if_neg ei
      rcases h.2 i i1 i2 with ⟨j, q1, q2, q3, q4, q5, q6⟩ | ⟨q1, q2⟩
      · refine Or.inl ⟨j, by omega, q2, q3, fun j' j0 j1 => ?_, by rw [← hc]; exact q5, q6⟩
        by_cases e : j' = z
        · subst e; exact hne
        · exact q4 j' (by omega) j1
      · refine Or.inr ⟨fun j j0 j1 => ?_, by rw [← hc]; exact q2⟩
        by_cases e : j = z
        · subst e; exact hne
        · exact q1 j (by omega) j1
/-- all kinds of steps but those with a slot -/
theorem Run_simple {f : Nat} (hM0 : 0 ≤ Mx) (hK : KYs n P K) (ih : RunQ h1 c0 s0 a t n te P H tx K Mx f (fun _ => True)) : RunQ h1 c0 s0 a t n te P H tx K Mx (f + 1) (fun s => s = 0 ∨ ¬ slk (P 1 s)) := by
  intro lv S s p u r ch c L B k hgt Q d hC hd hT hB hh ok no
  have hB0 := hB
  obtain ⟨b1, b2, b3, b4, b5, b6, ⟨b7, b8⟩, b9, b10, b11⟩ := hB
  have hch := hT.1
  have hk9 : k < 1000000000 := by have := Psi_ge (K := K) (k := k) hM0 b7; omega
  have hW := b1.2.2.1
  have hd8 : 9 ≤ d := by omega
  have self := NOp.self hB0 hch.1
  have ePj : ∀ j s, 1 ≤ j → j ≤ 6 → B (a + j) s = P j s := b1.2.2.2.1
  by_cases h0 : s = 0
  · subst h0
    have hte := hW.2.2.2.2.2.2
    have e4 : (B 102 4).toNat = t := by have := hW.2.2.1; omega
    have e7 : B 102 7 = p := b2.2.1
    have en : B t 1 = n := hW.2.2.2.2.1
    have hwd := hW.2.2.2.2.2.1
    have eW : Ww n tx te P H (f + 1) lv 0 p u c = if lv = 1 ∨ te = 0 ∨ p = n then [(p, c)] else [] := by
      show (if (0 : Int) = 0 then _ else _) = _
      rw [if_pos rfl]
    refine Lp_0 (by omega) b1.1 b10 hk9 b2.1 (by omega) (by rw [hte.1]; exact hte.2) (by rw [e4]; exact hW.2.2.2.1) ⟨by omega, by omega⟩ (by rw [e4, en]; exact ⟨by omega, by omega⟩) (fun q => ?_) (fun q => ?_)
    · rw [e4, e7, en, hte.1] at q
      rw [e7]
      refine ok (p, c) [] (by rw [eW, if_pos q]) B ⟨b1, WF.refl, b6, fun κ k0 => ⟨Int.le_refl _, b7 κ k0⟩, ⟨Int.le_refl _, by omega⟩, fun _ _ _ => rfl, b4, fun j j0 j1 => by omega, fun i i0 i1 => Or.inr ⟨fun j j0 j1 => by omega, rfl⟩⟩
    · rw [e4, e7, en, hte.1] at q
      exact no (by rw [eW, if_neg q]) B k self
  · have hns : ¬ slk (P 1 s) := by
      rcases hC with q | q
      · exact absurd q h0
      · exact q
    have hX : TmX n P Mx (f + 1) s p u := ⟨_, _, _, _, hT⟩
    have hsub : ∀ g, TmX n P Mx g s p u → _ := fun g hg => TmX_sub hg h0
    rcases hT.2 with q | ⟨hs, q⟩
    · exact absurd q h0
    · have hs6 : 1 ≤ s ∧ s < 608 := ⟨hs.1, by have := hK.1; omega⟩
      rcases q with ⟨k1, k2, k3, k4⟩ | ⟨k1, k2, k3, k4⟩ | ⟨k1, k4⟩ | ⟨k1, -⟩ | ⟨k1, k3, k4⟩ | ⟨k1, k2, k3, k4, k5⟩ | ⟨k1, -⟩
      · -- a byte
        refine L_b (by omega) b1.1 b1.2.1 hW b2 hs6 b3 b10 hk9 (by rw [ePj 1 s (by decide) (by decide)]; exact k1) (by rw [ePj 2 s (by decide) (by decide)]; exact k3) (fun w B1 hM => ?_) (fun w => ?_)
        · rw [ePj 2 s (by decide) (by decide), b1.2.2.2.2.2.1] at w
          rw [ePj 3 s (by decide) (by decide), ePj 5 s (by decide) (by decide)] at hM
          have eW : Ww n tx te P H (f + 1) lv s p u c = Ww n tx te P H f lv (P 3 s) (p + 1) (P 5 s) c := by rw [Ww_b h0 k1, if_pos w]
          rw [eW] at ok no
          refine Run_mv ih hd hB0 hh (k4 w.1) hM ⟨by omega, by omega⟩ ⟨Or.inl (by omega), fun g hg => ?_⟩ ok no
          obtain ⟨g', rfl, z, -⟩ := hsub g hg
          exact TmX_mono (z k1 w.1) (Nat.le_succ _)
        · rw [ePj 2 s (by decide) (by decide), b1.2.2.2.2.2.1] at w
          exact no (by rw [Ww_b h0 k1, if_neg w]) B k self
      · -- a set
        have eH : ∀ c9 : Int, 0 ≤ c9 → H (P 2 s) c9.toNat = some (hoC B (a + 7) (P 2 s) c9) := fun c9 z => by rw [b1.2.2.2.2.1, show ((c9.toNat : Nat) : Int) = c9 by omega]
        have e0 : p < n → 0 ≤ tx p := fun z => by
          rw [← b1.2.2.2.2.2.1 p, (byA_lt hW.2.2.2.2.1 b3.1).1 z]
          exact (a255 _).1
        have iff : (p < n ∧ hoC B (a + 7) (B (a + 2) s) (byA B t p) = true) ↔ (p < n ∧ H (P 2 s) (tx p).toNat = some true) := by
          rw [ePj 2 s (by decide) (by decide), b1.2.2.2.2.2.1]
          constructor
          · rintro ⟨z1, z2⟩
            exact ⟨z1, by rw [eH _ (e0 z1), z2]⟩
          · rintro ⟨z1, z2⟩
            rw [eH _ (e0 z1), Option.some_inj] at z2
            exact ⟨z1, z2⟩
        refine L_s (by omega) b1.1 b1.2.1 hW b2 hs6 b3 b10 hk9 (by rw [ePj 1 s (by decide) (by decide)]; exact k1) (by rw [ePj 2 s (by decide) (by decide)]; exact k3) (fun w B1 hM => ?_) (fun w => ?_)
        · rw [iff] at w
          rw [ePj 3 s (by decide) (by decide), ePj 5 s (by decide) (by decide)] at hM
          have eW : Ww n tx te P H (f + 1) lv s p u c = Ww n tx te P H f lv (P 3 s) (p + 1) (P 5 s) c := by rw [Ww_s h0 k1, if_pos w]
          rw [eW] at ok no
          refine Run_mv ih hd hB0 hh (k4 w.1) hM ⟨by omega, by omega⟩ ⟨Or.inl (by omega), fun g hg => ?_⟩ ok no
          obtain ⟨g', rfl, -, z, -⟩ := hsub g hg
          exact TmX_mono (z k1 w.1) (Nat.le_succ _)
        · rw [iff] at w
          exact no (by rw [Ww_s h0 k1, if_neg w]) B k self
      · -- a place
        have etx : byA B t = tx := funext b1.2.2.2.2.2.1
        refine L_g (k' := P 1 s) (by omega) b1.1 b1.2.1 hW b2 hs6 b3 b10 hk9 (ePj 1 s (by decide) (by decide)) k1 (fun w B1 hM => ?_) (fun w => ?_)
        · rw [etx] at w
          rw [ePj 3 s (by decide) (by decide)] at hM
          have eW : Ww n tx te P H (f + 1) lv s p u c = Ww n tx te P H f lv (P 3 s) p u c := by rw [Ww_g h0 k1, if_pos w]
          rw [eW] at ok no
          refine Run_mv ih hd hB0 hh k4 hM b3 ⟨Or.inr ⟨rfl, Int.le_refl _⟩, fun g hg => ?_⟩ ok no
          obtain ⟨g', rfl, -, -, z, -⟩ := hsub g hg
          exact TmX_mono (z k1.1 k1.2) (Nat.le_succ _)
        · rw [etx] at w
          exact no (by rw [Ww_g h0 k1, if_neg w]) B k self
      · exact absurd (Or.inl k1) hns
      · -- the end of a round
        refine L_rd (by omega) b1.1 b1.2.1 hW b2 hs6 b10 hk9 (by rw [ePj 1 s (by decide) (by decide)]; exact k1) ⟨hch.2.2.1, hch.2.2.2⟩ ?_ (fun w B1 hM => ?_) (fun w => ?_)
        · rw [ePj 2 s (by decide) (by decide)]
          exact ⟨by omega, by omega⟩
        · rw [ePj 2 s (by decide) (by decide)] at w hM
          rw [ePj 3 s (by decide) (by decide)] at hM
          have eW : Ww n tx te P H (f + 1) lv s p u c = Ww n tx te P H f lv (P 3 s) p (P 2 s - 1) c := by rw [Ww_rd h0 k1, if_pos w]
          rw [eW] at ok no
          refine Run_mv ih hd hB0 hh (k4 w) hM b3 ⟨Or.inr ⟨rfl, by omega⟩, fun g hg => ?_⟩ ok no
          obtain ⟨g', rfl, -, -, -, -, z, -⟩ := hsub g hg
          exact TmX_mono (z k1 w) (Nat.le_succ _)
        · rw [ePj 2 s (by decide) (by decide)] at w
          exact no (by rw [Ww_rd h0 k1, if_neg w]) B k self
      · -- a mark
        have ei : B (a + 2) s = P 2 s := ePj 2 s (by decide) (by decide)
        have hmk := b4 (P 2 s) k3.1 k3.2
        have hcr := b5 (P 2 s) k3.1 k3.2
        have hwd := hW.2.2.2.2.2.1
        have eW : Ww n tx te P H (f + 1) lv s p u c = Ww n tx te P H f lv (P 3 s) p u (upc c (P 2 s) p) := Ww_mk h0 k1
        have rch : Rch n P Mx s p u (P 3 s) p u := ⟨Or.inr ⟨rfl, Int.le_refl _⟩, fun g hg => by
          obtain ⟨g', rfl, -, -, -, -, -, z, -⟩ := hsub g hg
          exact TmX_mono (z k1) (Nat.le_succ _)⟩
        have hTf : 0 ≤ r - 1 := by
          cases f with
          | zero => exact k5.elim
          | succ f => exact k5.1.2.1
        refine L_mk (i := P 2 s) (by omega) b1.1 b1.2.1 hW b2 hs6 b3 b10 hk9 (by omega) (by rw [ePj 1 s (by decide) (by decide)]; exact k1) ei k3 (by omega) (fun w B1 hM => ?_) (fun w B1 hU B3 hM => ?_)
        · rw [ePj 3 s (by decide) (by decide)] at hM
          have ec : upc c (P 2 s) p = c := by
            funext j
            unfold upc
            split
            · rename_i q; subst q; omega
            · rfl
          rw [eW, ec] at ok no
          exact Run_mv ih hd hB0 hh (Tm_mono f f _ _ _ _ _ _ _ _ _ k5 (Nat.le_refl _) (by omega) (Int.le_refl _)) hM b3 rch ok no
        · rw [ePj 3 s (by decide) (by decide)] at hM
          rw [eW] at ok no
          obtain ⟨u1, u2', u3, u4, u5, u6, u7, u8⟩ := PU_all hU b1
          obtain ⟨v1, v2, v3, v4, v5, v6⟩ := mk_all (i := P 2 s) (x := p) k3.1 u1
          obtain ⟨m1, m2, m3, m4, m5, m6, m7⟩ := MV_all hM v1
          have hF : WF B B3 := (u2'.tr v2).tr m2
          have hr : ∀ κ, rv B3 κ = rv B κ := fun κ => by rw [m3, v3, u3]
          have hz : B3 103 1 = B 103 1 + 1 := by rw [m4, v4, u4]
          have hps : PSm B B3 (B 103 1) := (u5.tr (v5 _)).tr (m5 _)
          have htop : B3 (pe B3) (B 103 1) = pkV 2 (P 2 s) 0 (B 107 (P 2 s) + 1) := by
            have z0 := b1.2.1.pile.2.2.2.2.2.1
            rw [m5 (B 103 1 + 1) _ z0 (by omega), v5 (B 103 1 + 1) _ z0 (by omega), u6]
          have ps : Psi K Mx L B3 (k + 1) = Psi K Mx L B k + 1 := by rw [Psi_k, Psi_same hr]
          have f1 : pkV 2 (P 2 s) 0 (B 107 (P 2 s) + 1) / 16777216 = 2 := by unfold pkV; omega
          have f2 : pkV 2 (P 2 s) 0 (B 107 (P 2 s) + 1) / 16384 % 1024 = P 2 s := by unfold pkV; omega
          have f4 : pkV 2 (P 2 s) 0 (B 107 (P 2 s) + 1) % 1024 - 1 = c (P 2 s) := by unfold pkV; omega
          have f5 : enO (pkV 2 (P 2 s) 0 (B 107 (P 2 s) + 1)) := by unfold enO pkV; omega
          have z0 := b1.2.1.pile.2.2.2.2.2.1
          refine ih lv S (P 3 s) p u (r - 1) (ch - 1) (upc c (P 2 s) p) L B3 (k + 1) hgt Q d trivial hd k5 ⟨m1, m7, b3, fun i i0 i1 => ?_, fun i i0 i1 => ?_, RSn_same b6 hr, ⟨fun κ k0 => by rw [hr]; exact b7 κ k0, Lim_up b8 rch⟩, by omega, by omega, by omega⟩ (by omega) (fun o rest hw B' hB' => ok o rest hw B' ?_) (fun hw B' k' hB' => ?_)
          · rw [m6]
            unfold upc
            by_cases e : i = P 2 s
            · rw [if_pos e, e]; exact u2_same
            · rw [if_neg e, u2_idx e, u7]; exact b4 i i0 i1
          · unfold upc
            split
            · omega
            · exact b5 i i0 i1
          · obtain ⟨q1, q2, q3, q4, q5, q6, q7, q8⟩ := hB'
            rw [hz] at q5 q6 q8
            have e9 : B' (pe B') (B 103 1) = pkV 2 (P 2 s) 0 (B 107 (P 2 s) + 1) := by rw [q6 _ z0 (by omega)]; exact htop
            exact ⟨q1, hF.tr q2, q3, fun κ k0 => by have := q4 κ k0; rw [hr] at this; exact this, ⟨by omega, by omega⟩, hps.tr (q6.le (by omega)), q7, UN_mark (i0 := P 2 s) (p := p) (by omega) (by rw [e9]; exact f5) (by rw [e9]; exact ⟨f1, f2⟩) k3 (by rw [e9]; exact f4) k4 q8⟩
          · obtain ⟨q1, q2, q3, q4, q5, q6, q7, q8, q9⟩ := hB'
            rw [hz] at q5 q6
            have e9 : B' (pe B') (B' 103 1 - 1) = pkV 2 (P 2 s) 0 (B 107 (P 2 s) + 1) := by rw [q5, show B 103 1 + 1 - 1 = B 103 1 by omega, q6 _ z0 (by omega)]; exact htop
            refine Fl_undo (c0 := c0) (s0 := s0) (by omega) q1.1 q1.2.1 (by omega) hh.1 e9 f5 f1 (by rw [f2]; exact k3.2) ?_
            rw [f2, f4]
            obtain ⟨x1, x2, x3, x4, x5, x6⟩ := pop_all q1 (by omega)
            obtain ⟨y1, y2, y3, y4, y5, y6⟩ := mk_all (i := P 2 s) (x := c (P 2 s)) k3.1 x1
            have hr2 : ∀ κ, rv (u2 (pop1 B') 107 (P 2 s) (c (P 2 s))) κ = rv B' κ := fun κ => by rw [y3, x3]
            refine no hw _ k' ⟨y1, (hF.tr q2).tr (x2.tr y2), RSn_same q3 hr2, fun κ k0 => ?_, by rw [y4, x4]; omega, (hps.tr (q6.le (by omega))).tr ((x5 _).tr (y5 _)), fun i i0 i1 => ?_, by omega, ?_⟩
            · have := q4 κ k0; rw [hr] at this; rw [hr2]; exact this
            · by_cases e : i = P 2 s
              · rw [e]; exact u2_same
              · rw [u2_idx e, x6 107 i (by decide), q7 i i0 i1]
                exact if_neg e
            · rw [Psi_same hr2]; omega
      · exact absurd (Or.inr k1) hns
end RUN
