/-! THE CLASS'S WALKER: the first place with a match -/
section TRY
variable {h1 : qH} {d : Nat} {Q : qO → qB → Prop}
theorem R_fill {a0 : Nat} {n0 x1 : Int} {B0 : qB} (hn : 0 ≤ n0 ∧ n0 ≤ 67108864) (ha : a0 < 1000000000) (hx : R32 x1) (w : ∀ B', SH B' → (∀ b x, (b = a0 → x < 0 ∨ n0 ≤ x) → B' b x = B0 b x) → (∀ x, 0 ≤ x → x < n0 → B' a0 x = x1) → Q (.inl none) B') : ∀ (N : Nat) (B : qB) (x2 : Int), (n0 - x2).toNat < N → 0 ≤ x2 → x2 ≤ n0 → SH B → isA B 1 a0 n0 → (∀ b x, (b = a0 → x < 0 ∨ x2 ≤ x) → B b x = B0 b x) → (∀ x, 0 ≤ x → x < x2 → B a0 x = x1) → qY h1 (d + 1) n_Ar_fill_AIIV 5 [some (.ref a0), some (iv x1), some (iv x2), some (iv n0)] [] B Q := by
  intro N
  induction N with
  | zero => intro B x2 h; exact absurd h (Nat.not_lt_zero _)
  | succ N ih =>
    intro B x2 hN h0 h2 hS hA hf hv
    refine c_Ar_fill_AIIV_5_ok (by omega) hS hA hn.2 ha ?_
    unfold c_Ar_fill_AIIV_5
    refine ⟨⟨by omega, by omega⟩, ⟨by omega, by omega⟩, fun q => w B hS (fun b x hx => hf b x (fun e => by have := hx e; omega)) (fun x y0 y1 => hv x y0 (by omega)), fun q => ⟨h0, q, ?_⟩⟩
    refine ih _ (x2 + 1) (by omega) (by omega) (by omega) (SH_u2 hS h0) ⟨by rw [u2_idx (by omega)]; exact hA.1, hA.2⟩ (fun b x hx => ?_) (fun x y0 y1 => ?_)
    · by_cases e : b = a0
      · have := hx e
        subst e
        rw [u2_idx (by omega)]
        exact hf _ _ (fun _ => by omega)
      · rw [u2_bank e]
        exact hf b x (fun q => absurd q e)
    · by_cases e : x = x2
      · subst e; exact u2_same
      · rw [u2_idx e]
        exact hv x y0 (by omega)
variable {c0 s0 : Int} {a t : Nat} {n te : Int} {tx : Int → Int} {e : qT} {P : qP} {H : Int → Nat → Option Bool} {K : Nat} {Mx : Int}
/-- the marks alone changed -/
theorem mks_all {B B' : qB} (hW : WI c0 s0 a t n te P H tx K B) (hS : SH B') (h : ∀ b x, (b = 107 → x < 0) → B' b x = B b x) : WI c0 s0 a t n te P H tx K B' ∧ WF B B' ∧ ∀ κ, rv B' κ = rv B κ := by
  have hfe := fe_ne hW.2.1
  have o : ∀ b x, b ≠ 107 → B' b x = B b x := fun b x hb => h b x (fun q => absurd q hb)
  have em : ∀ b, B' b (-1) = B b (-1) := fun b => h b (-1) (fun _ => by decide)
  have ep : pe B' = pe B := by unfold pe; rw [o 103 0 (by decide)]
  have ef : fe B' = fe B := by unfold fe; rw [o 105 0 (by decide)]
  have hD : DI c0 s0 B' := by
    have hD := hW.2.1
    unfold DI at hD ⊢
    simp only [ep, ef, em, o 2000000000 0 (by decide), o 2000000000 1 (by decide), o 103 1 (by decide)]
    exact hD
  have hF : WF B B' := ⟨fun b x _ _ _ _ h7 _ => o b x h7, fun x => o _ _ (by decide)⟩
  have hf : ∀ i, B' (fe B) i = B (fe B) i := fun i => o _ _ (by omega)
  exact ⟨WI_fr hW hS hD hF (el_same hW.2.1 ef (hf _)), hF, rv_same ef hf⟩
/-- the pile is cleared -/
theorem clr_all {B : qB} (hW : WI c0 s0 a t n te P H tx K B) : WI c0 s0 a t n te P H tx K (u2 B 103 1 0) ∧ WF B (u2 B 103 1 0) ∧ (∀ κ, rv (u2 B 103 1 0) κ = rv B κ) := by
  have hp := hW.2.1.pile
  obtain ⟨D1, p1, f1⟩ := DI_sz (z := 0) hW.2.1 (Int.le_refl _) (by omega)
  have hfe := fe_ne hW.2.1
  have hF : WF B (u2 B 103 1 0) := WF_u2 hW.2.1 (Or.inl rfl)
  have hf : ∀ i, (u2 B 103 1 0) (fe B) i = B (fe B) i := fun i => u2_bank (by omega)
  exact ⟨WI_fr hW (SH_u2 hW.1 (by decide)) D1 hF (el_same hW.2.1 f1 (hf _)), hF, rv_same f1 hf⟩
/-- the accepted ways from a place on -/
def wys (n : Int) (tx : Int → Int) (te : Int) (e : qT) (b : Int) : qWs := (dn n tx e b (fun _ => -1)).filter (acc te n)
theorem L_try {first last : Int} (hd : 21 ≤ d) (hT : TrO e) (hL : Ly P H 1 (P 0 7) e 0 0 (P 0 9) 0 0 0) (hK : KYs n P (spc e * (n + 1)).toNat) {B0 : qB} (h9 : B0 a 9 = P 0 9) (hf : 0 ≤ first) (hl : last ≤ n)
    (ok : ∀ b o rest, first ≤ b → b ≤ last → (∀ b', first ≤ b' → b' < b → wys n tx te e b' = []) → wys n tx te e b = o :: rest → ∀ B', WI c0 s0 a t n te P H tx (spc e * (n + 1)).toNat B' → WF B0 B' → RSn n te P H tx (spc e * (n + 1)).toNat (2 * (znb e + 2)) B' → MKs B' (upc (upc o.2 0 b) 1 o.1) → Q (.inl (some (iv 1))) B')
    (no : (∀ b', first ≤ b' → b' ≤ last → wys n tx te e b' = []) → ∀ B', WI c0 s0 a t n te P H tx (spc e * (n + 1)).toNat B' → WF B0 B' → MKs B' (fun _ => -1) → Q (.inl (some (iv 0))) B') : ∀ (N : Nat) (b : Int) (B : qB), (last + 1 - b).toNat < N → first ≤ b → (∀ b', first ≤ b' → b' < b → b' ≤ last → wys n tx te e b' = []) → WI c0 s0 a t n te P H tx (spc e * (n + 1)).toNat B → WF B0 B → RSn n te P H tx (spc e * (n + 1)).toNat (2 * (znb e + 2)) B → MKs B (fun _ => -1) → -1 ≤ last → R32 b → qY h1 (d + 1) n_Wa_tryPlaces 10 [some (.ref 102), none, some (iv last), some (iv b), none] [] B Q := by
  intro N
  induction N with
  | zero => intro b B h; exact absurd h (Nat.not_lt_zero _)
  | succ N ih =>
    intro b B hN hb hpre hW hF hR hM hl1 hbR
    have hwd := hW.2.2.1.2.2.2.2.2.1
    have e3 : (B 102 3).toNat = a := by have := hW.2.2.1.1; omega
    refine c_Wa_tryPlaces_10_ok (by omega) hW.1 ?_
    unfold c_Wa_tryPlaces_10
    refine ⟨hbR, ⟨by omega, by omega⟩, fun q => no (fun b' q0 q1 => hpre b' q0 (by omega) q1) B hW hF hM, fun q => ?_⟩
    obtain ⟨y1, y2, y3⟩ := clr_all hW
    have al := pr_lt hW.2.2.1.2.1
    have e9 : (u2 B 103 1 0) ((B 102 3).toNat) 9 = P 0 9 := by
      rw [e3, u2_bank (by omega), hF.1 a 9 (by omega) (by omega) (by omega) (by omega) (by omega) (by omega)]
      exact h9
    rw [e9]
    have hM' : MKs (u2 B 103 1 0) (fun _ => -1) := fun i i0 i1 => by rw [u2_bank (by decide)]; exact hM i i0 i1
    refine ⟨by rw [e3]; exact hW.2.2.1.2.1, ?_⟩
    refine R_walk (c0 := c0) (s0 := s0) (by omega) hT hL hK y1 (RSn_same hR y3) u2_same ⟨by omega, by omega⟩ hM' (fun i _ _ => ⟨Int.le_refl _, by omega⟩) (fun o rest hw B' x1 x2 x3 x4 => ?_) (fun hw B' x1 x2 x3 x4 => ?_)
    · have hmem : o ∈ dn n tx e b (fun _ => -1) := (List.mem_filter.mp (show o ∈ (dn n tx e b (fun _ => -1)).filter (acc te n) by rw [hw]; exact List.mem_cons_self ..)).1
      have hrg := dn_Rg n tx e b _ (by omega) (by omega) o hmem
      refine ⟨o.1, rfl, x1.1, ?_⟩
      unfold c_Wa_tryPlaces_35
      refine ⟨⟨by omega, by omega⟩, fun z => by omega, fun _ => ?_⟩
      obtain ⟨z1, z2, z3, -⟩ := mk_all (i := 0) (x := b) (Int.le_refl _) x1
      obtain ⟨z4, z5, z6, -⟩ := mk_all (i := 1) (x := o.1) (by decide) z1
      refine ok b o rest hb q (fun b' q0 q1 => hpre b' q0 q1 (by omega)) hw _ z4 ((hF.tr y2).tr (x2.tr (z2.tr z5))) (RSn_same (RSn_same x3 z3) z6) (fun i i0 i1 => ?_)
      unfold upc
      by_cases w1 : i = 1
      · rw [if_pos w1, w1, u2_same]
      · rw [if_neg w1, u2_idx w1]
        by_cases w0 : i = 0
        · rw [if_pos w0, w0, u2_same]
        · rw [if_neg w0, u2_idx w0]
          exact x4 i i0 i1
    · refine ⟨-1, rfl, x1.1, ?_⟩
      unfold c_Wa_tryPlaces_35
      refine ⟨⟨by decide, by decide⟩, fun _ => ?_, fun z => absurd rfl z⟩
      refine ih (b + 1) B' (by omega) (by omega) (fun b' q0 q1 q2 => ?_) x1 ((hF.tr y2).tr x2) x3 x4 hl1 ⟨by omega, by omega⟩
      by_cases z : b' = b
      · subst z; exact hw
      · exact hpre b' q0 (by omega) q2
theorem R_tryPlaces {first last : Int} {B : qB} (hd : 23 ≤ d) (hT : TrO e) (hL : Ly P H 1 (P 0 7) e 0 0 (P 0 9) 0 0 0) (hK : KYs n P (spc e * (n + 1)).toNat) (h9 : B a 9 = P 0 9) (hf : 0 ≤ first ∧ first ≤ 2000000) (hl : -1 ≤ last ∧ last ≤ n) (hW : WI c0 s0 a t n te P H tx (spc e * (n + 1)).toNat B) (hR : RSn n te P H tx (spc e * (n + 1)).toNat (2 * (znb e + 2)) B)
    (ok : ∀ b o rest, first ≤ b → b ≤ last → (∀ b', first ≤ b' → b' < b → wys n tx te e b' = []) → wys n tx te e b = o :: rest → ∀ B', WI c0 s0 a t n te P H tx (spc e * (n + 1)).toNat B' → WF B B' → RSn n te P H tx (spc e * (n + 1)).toNat (2 * (znb e + 2)) B' → MKs B' (upc (upc o.2 0 b) 1 o.1) → Q (.inl (some (iv 1))) B')
    (no : (∀ b', first ≤ b' → b' ≤ last → wys n tx te e b' = []) → ∀ B', WI c0 s0 a t n te P H tx (spc e * (n + 1)).toNat B' → WF B B' → MKs B' (fun _ => -1) → Q (.inl (some (iv 0))) B') : qY h1 d n_Wa_tryPlaces 0 [some (.ref 102), some (iv first), some (iv last), none, none] [] B Q := by
  obtain ⟨d, rfl⟩ : ∃ d', d = d' + 1 := ⟨d - 1, by omega⟩
  have hA : isA B 1 107 20 := SH.a hW.1 ⟨by decide, by decide, by decide, by decide⟩
  refine c_Wa_tryPlaces_0_ok (by omega) hW.1 ?_
  unfold c_Wa_tryPlaces_0
  obtain ⟨d, rfl⟩ : ∃ d', d = d' + 1 := ⟨d - 1, by omega⟩
  refine c_Ar_fill_AIIV_0_ok (by omega) hW.1 hA (by decide) (by decide) ?_
  unfold c_Ar_fill_AIIV_0
  refine R_fill (B0 := B) ⟨by decide, by decide⟩ (by decide) ⟨by decide, by decide⟩ (fun B1 g1 g2 g3 => ⟨rfl, g1, ?_⟩) _ B 0 (Nat.lt_succ_self _) (Int.le_refl _) (by decide) hW.1 hA (fun _ _ _ => rfl) (fun x y0 y1 => by omega)
  obtain ⟨m1, m2, m3⟩ := mks_all hW g1 (fun b x hx => g2 b x (fun q => Or.inl (hx q)))
  unfold c_Wa_tryPlaces_8
  exact L_try (c0 := c0) (s0 := s0) (B0 := B) (by omega) hT hL hK h9 hf.1 hl.2 ok no _ first B1 (Nat.lt_succ_self _) (Int.le_refl _) (fun b' q0 q1 => by omega) m1 m2 (RSn_same hR m3) (fun i i0 i1 => g3 i i0 i1) hl.1 ⟨by omega, by omega⟩
end TRY
