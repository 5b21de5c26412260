/-! THE CLASS'S WALKER: a step with a slot is opened, and closed when all its ways failed -/
section SPL
variable {h1 : qH} {c0 s0 : Int} {a t : Nat} {n te : Int} {P : qP} {H : Int → Nat → Option Bool} {tx : Int → Int} {K : Nat} {Mx : Int} {B B' : qB}
theorem RA_all {κ x : Int} (h : RAd c0 s0 B B' κ x) (hW : WI c0 s0 a t n te P H tx K B) : WI c0 s0 a t n te P H tx K B' ∧ WF B B' ∧ B' 103 1 = B 103 1 ∧ (∀ z, PSm B B' z) ∧ (∀ y, B' 107 y = B 107 y) := by
  obtain ⟨g1, g2, g3, g4, -, -, g7, g8⟩ := h
  have hfe := fe_ne hW.2.1
  have hpe := pe_ne hW.2.1
  have hfl := hW.2.1.fail.2.2.2
  have hF : WF B B' := ⟨fun b x b1 _ _ b4 _ _ => g7 b x (by omega), fun x => g7 _ _ (by omega)⟩
  refine ⟨WI_fr hW g1 g2 hF (el_same hW.2.1 g4 g8), hF, g7 _ _ (by omega), fun z j _ _ => ?_, fun y => g7 _ _ (by omega)⟩
  rw [g3]
  exact g7 _ _ hpe.2
/-- the limit of an open step is what its rounds took -/
def opL (L : Int → Int) (κ u : Int) : Int → Int := fun x => if x = κ then u else L x
theorem Lim_open {L : Int → Int} {s p u s1 p1 u1 : Int} {g : Nat} (hK : KYs n P K) (hs : 1 ≤ s ∧ s < P 0 7) (hk : slk (P 1 s)) (hp : 0 ≤ p ∧ p ≤ n) (h : Lim n P Mx L s p u) (hX : TmX n P Mx g s p u) (hr : p < p1 ∨ (p1 = p ∧ u1 ≤ u)) (hst : ∀ g, TmX n P Mx (g + 1) s p u → TmX n P Mx g s1 p1 u1) : Lim n P Mx (opL L (ky P n s p) u) s1 p1 u1 := by
  intro s' p' u' q1 q2 q3 q4 q5
  have hR : Rch n P Mx s p u s1 p1 u1 := ⟨hr, fun g hg => by
    cases g with
    | zero => obtain ⟨_, _, _, _, z⟩ := hg; exact z.elim
    | succ g => exact TmX_mono (hst g hg) (Nat.le_succ _)⟩
  unfold opL
  by_cases e : ky P n s' p' = ky P n s p
  · rw [if_pos e]
    obtain ⟨e1, e2⟩ := ky_inj hK q2 q1 q3 hs hk hp e
    subst e1 e2
    have hu := (Rch_up hR q5).1
    obtain ⟨g0, z1, z2⟩ := TmX_min hX
    have z3 := q5.2 g0 (hst g0 z1)
    rcases (by omega : u' < u ∨ u' = u) with w | w
    · exact w
    · subst w; exact absurd z3 z2
  · rw [if_neg e]
    exact Lim_up h hR s' p' u' q1 q2 q3 q4 q5
theorem Lim_self {L : Int → Int} {s p u : Int} (hs : 1 ≤ s ∧ s < P 0 7) (hk : slk (P 1 s)) (hp : 0 ≤ p ∧ p ≤ n) (hu : 0 ≤ u) (h : Lim n P Mx L s p u) : u < L (ky P n s p) := h s p u hk hs hp hu ⟨Or.inr ⟨rfl, Int.le_refl _⟩, fun _ z => z⟩
theorem opL_ge {L : Int → Int} {κ u : Int} (h : ∀ κ, 0 ≤ κ → rv B κ ≤ L κ) (hu : rv B κ ≤ u) : ∀ κ', 0 ≤ κ' → rv B κ' ≤ opL L κ u κ' := by
  intro κ' k0
  unfold opL
  split
  · rename_i e; rw [e]; exact hu
  · exact h κ' k0
theorem Psi_open {L : Int → Int} {κ u k : Int} (k0 : 0 ≤ κ) (k1 : κ < K) : Psi K Mx (opL L κ u) B k = Psi K Mx L B k - Mx * (L κ - u) := by
  unfold Psi opL
  rw [smL_set k0, if_pos k1, show smL L K - (L κ - u) - smr B K = (smL L K - smr B K) - (L κ - u) by omega, Int.mul_sub]
  omega
/-- all ways of an open step failed -/
theorem Fl_close {d : Nat} {lv hgt : Int} {Q : qO → qB → Prop} {k : Int} {L : Int → Int} {s p u : Int} (hd : 6 ≤ d) (hK : KYs n P K) (hW : WI c0 s0 a t n te P H tx K B) (hR : RSn n te P H tx K Mx B) (hs : 1 ≤ s ∧ s < P 0 7) (hk : slk (P 1 s)) (hp : 0 ≤ p ∧ p ≤ n) (hu : 0 ≤ u ∧ u ≤ 11) (hL : ∀ κ, 0 ≤ κ → rv B κ ≤ opL L (ky P n s p) u κ) (hLs : u < L (ky P n s p)) (hE : ∀ u', u' ≤ u → Emp n tx te P H Mx s p u') (hg : 0 ≤ hgt ∧ hgt < B 103 1) (htop : B (pe B) (B 103 1 - 1) = pkV 1 s u p)
    (w : ∀ B', WI c0 s0 a t n te P H tx K B' → WF B B' → RSn n te P H tx K Mx B' → (∀ κ, 0 ≤ κ → rv B κ ≤ rv B' κ ∧ rv B' κ ≤ L κ) → B' 103 1 = B 103 1 - 1 → PSm B B' (B 103 1 - 1) → (∀ y, B' 107 y = B 107 y) → Psi K Mx L B' k = Psi K Mx (opL L (ky P n s p) u) B k + Mx * (L (ky P n s p) - u) - Mx * (u + 1 - rv B (ky P n s p)) → Fl h1 d lv hgt Q k B') : Fl h1 d lv hgt Q k B := by
  obtain ⟨x1, x2, x3, x4, x5, x6⟩ := pop_all hW (by omega)
  have hn := hW.2.2.1.2.2.2.2.2.1
  have h608 := hK.1
  have f1 : pkV 1 s u p / 16777216 = 1 := by unfold pkV; omega
  have f2 : pkV 1 s u p / 16384 % 1024 = s := by unfold pkV; omega
  have f3 : pkV 1 s u p / 1024 % 16 = u := by unfold pkV; omega
  have f4 : pkV 1 s u p % 1024 = p := by unfold pkV; omega
  have f5 : enO (pkV 1 s u p) := by unfold enO pkV; omega
  have hky := ky_rg hK hs hk hp
  have e5 : (B 102 3).toNat = a := by have := hW.2.2.1.1; omega
  have e4 : (B 102 4).toNat = t := by have := hW.2.2.1.2.2.1; omega
  have hel := hW.2.2.2.2.2.2
  have hru : rv B (ky P n s p) ≤ u := by
    have := hL _ hky.1
    unfold opL at this
    rwa [if_pos rfl] at this
  refine Fl_failed (c0 := c0) (s0 := s0) hd hW.1 hW.2.1 hg.2 hg.1 htop f5 f1 (by rw [f2]; omega) (by rw [f3]; omega) (by rw [e5]; exact hW.2.2.1.2.1) (by rw [e4]; exact hW.2.2.1.2.2.2.1) (by rw [f2, f4, keV_ky hW]; exact hky.1) (by rw [f2, f4, keV_ky hW]; omega) (fun B2 hB2 => ?_)
  rw [f2, f3, f4, keV_ky hW] at hB2
  obtain ⟨y1, y2, y3, y4, y5⟩ := RA_all hB2 x1
  have r1 : rv B2 (ky P n s p) = u + 1 := by
    rw [hB2.2.2.2.2.1, x3, if_pos hru]
  have r2 : ∀ κ', 0 ≤ κ' → κ' ≠ ky P n s p → rv B2 κ' = rv B κ' := fun κ' z0 z1 => by rw [hB2.2.2.2.2.2.1 κ' z0 z1, x3]
  refine w B2 y1 (x2.tr y2) ⟨fun κ k0 kK => ?_, fun s' p' u' q1 q2 q3 q4 q5 => ?_⟩ (fun κ k0 => ?_) (by rw [y3, x4]) ((x5 _).tr (y4 _)) (fun y => by rw [y5]; exact x6 107 y (by decide)) ?_
  · by_cases e : κ = ky P n s p
    · rw [e, r1]; omega
    · rw [r2 κ k0 e]; exact hR.1 κ k0 kK
  · have k0 := (ky_rg hK q2 q1 q3).1
    by_cases e : ky P n s' p' = ky P n s p
    · obtain ⟨e1, e2⟩ := ky_inj hK q2 q1 q3 hs hk hp e
      subst e1 e2
      rw [r1] at q5
      exact hE u' (by omega)
    · rw [r2 _ k0 e] at q5
      exact hR.2 s' p' u' q1 q2 q3 q4 q5
  · by_cases e : κ = ky P n s p
    · rw [e, r1]
      omega
    · rw [r2 κ k0 e]
      have := hL κ k0
      unfold opL at this
      rw [if_neg e] at this
      exact ⟨Int.le_refl _, this⟩
  · rw [Psi_open hky.1 hky.2]
    unfold Psi
    rw [smr_set (B := B) hky.1 r1 r2 K, if_pos hky.2, show smL L K - (smr B K + (u + 1 - rv B (ky P n s p))) = (smL L K - smr B K) - (u + 1 - rv B (ky P n s p)) by omega, Int.mul_sub]
    omega
end SPL
