/-! THE CLASS'S WALKER: a lookahead or kept rounds -/
section RAP
variable {h1 : qH} {c0 s0 : Int} {a t : Nat} {n te : Int} {P : qP} {H : Int → Nat → Option Bool} {tx : Int → Int} {K : Nat} {Mx : Int}
theorem Ww_cr : ∀ (f : Nat) (lv s p u : Int) (c : qCp), 0 ≤ p → p ≤ n → (∀ i, 0 ≤ i → i < 20 → -1 ≤ c i ∧ c i ≤ n) → ∀ o ∈ Ww n tx te P H f lv s p u c, ∀ i, 0 ≤ i → i < 20 → -1 ≤ o.2 i ∧ o.2 i ≤ n := by
  intro f
  induction f with
  | zero => intro lv s p u c _ _ _ o ho; exact absurd ho (by simp [Ww])
  | succ f ih =>
    intro lv s p u c p0 hp hc o ho
    unfold Ww at ho
    split at ho
    · split at ho
      · rw [List.mem_singleton] at ho; subst ho; exact hc
      · exact absurd ho (by simp)
    · split at ho
      · split at ho
        · exact ih _ _ _ _ _ (by omega) (by omega) hc o ho
        · exact absurd ho (by simp)
      · split at ho
        · split at ho
          · exact ih _ _ _ _ _ (by omega) (by omega) hc o ho
          · exact absurd ho (by simp)
        · split at ho
          · split at ho
            · exact ih _ _ _ _ _ p0 hp hc o ho
            · exact absurd ho (by simp)
          · split at ho
            · rcases List.mem_append.mp ho with w | w
              · exact ih _ _ _ _ _ p0 hp hc o w
              · exact ih _ _ _ _ _ p0 hp hc o w
            · split at ho
              · split at ho
                · exact ih _ _ _ _ _ p0 hp hc o ho
                · exact absurd ho (by simp)
              · split at ho
                · refine ih _ _ _ _ _ p0 hp (fun i i0 i1 => ?_) o ho
                  unfold upc
                  split
                  · omega
                  · exact hc i i0 i1
                · split at ho
                  · exact absurd ho (by simp)
                  · split at ho
                    · split at ho
                      · exact ih _ _ _ _ _ p0 hp hc o ho
                      · exact absurd ho (by simp)
                    · rename_i o' t hw
                      have hm : o' ∈ Ww n tx te P H f 1 (P 4 s) p 0 c := by rw [hw]; exact List.mem_cons_self ..
                      have hr := Ww_rg f 1 (P 4 s) p 0 c hp o' hm
                      have hc' := ih 1 (P 4 s) p 0 c p0 hp hc o' hm
                      split at ho
                      · exact absurd ho (by simp)
                      · split at ho
                        · exact ih _ _ _ _ _ p0 hp hc' o ho
                        · exact ih _ _ _ _ _ (by omega) hr.2 hc' o ho
theorem DW_all {B B' : qB} {z : Int} (h : DW c0 s0 B B' z) (hW : WI c0 s0 a t n te P H tx K B) : WI c0 s0 a t n te P H tx K B' ∧ WF B B' ∧ (∀ κ, rv B' κ = rv B κ) ∧ PSm B B' z ∧ (∀ y, B' 107 y = B 107 y) := by
  obtain ⟨g1, g2, g3, g4, -, g6, -⟩ := h
  have hfe := fe_ne hW.2.1
  have hpe := pe_ne hW.2.1
  have hpl := hW.2.1.pile.2.2.2.1
  have hF : WF B B' := ⟨fun b x b1 b3 b4 _ _ _ => g6 b x (fun q => by omega) (fun q => absurd q b3), fun x => g6 _ _ (fun q => by omega) (fun q => absurd q (by decide))⟩
  have hf : ∀ i, B' (fe B) i = B (fe B) i := fun i => g6 _ _ (fun q => absurd q.symm hpe.2) (fun q => by omega)
  refine ⟨WI_fr hW g1 g2 hF (el_same hW.2.1 g4 (hf _)), hF, rv_same g4 hf, fun j _ j1 => ?_, fun y => g6 _ _ (fun q => by omega) (fun q => absurd q (by decide))⟩
  rw [g3]
  exact g6 _ _ (fun _ => j1) (fun q => by omega)
theorem Psi_mono {L : Int → Int} {B B' : qB} {k : Int} (hM : 0 ≤ Mx) (h : ∀ κ, 0 ≤ κ → rv B κ ≤ rv B' κ) : Psi K Mx L B' k ≤ Psi K Mx L B k := by
  have h2 := smr_le h K
  have := Int.mul_le_mul_of_nonneg_left (show smL L K - smr B' K ≤ smL L K - smr B K by omega) hM
  unfold Psi
  omega
theorem Run_ap {f : Nat} (hM0 : 0 ≤ Mx) (hK : KYs n P K) (ih : RunQ h1 c0 s0 a t n te P H tx K Mx f (fun _ => True)) : RunQ h1 c0 s0 a t n te P H tx K Mx (f + 1) (fun s => s ≠ 0 ∧ (P 1 s = 7 ∨ P 1 s = 8 ∨ P 1 s = 14)) := by
  intro lv S s p u r ch c L B k hgt Q d hC hd hT hB hh ok no
  have hB0 := hB
  obtain ⟨h0, hkd⟩ := hC
  obtain ⟨b1, b2, b3, b4, b5, b6, ⟨b7, b8⟩, b9, b10, b11⟩ := hB
  have hch := hT.1
  have hk9 : k < 1000000000 := by have := Psi_ge (K := K) (k := k) hM0 b7; omega
  have hW := b1.2.2.1
  have self := NOp.self hB0 hch.1
  have ePj : ∀ j s, 1 ≤ j → j ≤ 6 → B (a + j) s = P j s := b1.2.2.2.1
  have hX : TmX n P Mx (f + 1) s p u := ⟨_, _, _, _, hT⟩
  have hwd := hW.2.2.2.2.2.1
  have z0 := b1.2.1.pile.2.2.2.2.2.1
  have hslk : slk (P 1 s) := by unfold slk; omega
  have hT0 := hT
  obtain ⟨-, q | ⟨hs, q⟩⟩ := hT
  · exact absurd q h0
  have hs2 : 1 ≤ s ∧ s < P 0 7 := ⟨hs.1, hs.2.1⟩
  have hs6 : 1 ≤ s ∧ s < 608 := ⟨hs.1, by have := hK.1; omega⟩
  obtain ⟨hlv, hdp, hr1, S', c1, c2, hc, e1, e2⟩ : lv = 0 ∧ (0 ≤ P 5 s ∧ P 5 s ≤ 11) ∧ 1 ≤ r ∧ ∃ S' c1 c2, c1 + c2 ≤ Mx ∧ Tm n P Mx f 1 S' (P 4 s) p 0 (r - 1) c1 ∧ ∀ q, p ≤ q → q ≤ n → (q = p ∨ P 1 s = 14) → Tm n P Mx f 0 S (P 3 s) q (if q = p then u else P 5 s) (r - 1 - S'.length) c2 := by
    rcases q with ⟨k1, -⟩ | ⟨k1, -⟩ | ⟨k1, -⟩ | ⟨k1, -⟩ | ⟨k1, -⟩ | ⟨k1, -⟩ | ⟨-, x1, x2, x3, x4⟩
    · omega
    · omega
    · omega
    · omega
    · omega
    · omega
    · exact ⟨x1, x2, x3, x4⟩
  subst hlv
  have hc1 := Tm_ch e1
  have hTp := e2 p (Int.le_refl _) b3.2 (Or.inl rfl)
  rw [if_pos rfl] at hTp
  have hc2 := Tm_ch hTp
  have hd14 : 14 ≤ d := by omega
  have hky := ky_rg hK hs2 hslk b3
  have hLs := Lim_self hs2 hslk b3 hch.2.2.1 b8
  have hst : ∀ g, TmX n P Mx (g + 1) s p u → TmX n P Mx g (P 4 s) p 0 ∧ ∀ q, p ≤ q → q ≤ n → (q = p ∨ P 1 s = 14) → TmX n P Mx g (P 3 s) q (if q = p then u else P 5 s) := fun g hg => by
    obtain ⟨g', e, -, -, -, -, -, -, z⟩ := TmX_sub hg h0
    have : g' = g := by omega
    subst this
    exact z hkd
  have hDf : Mx ≤ Mx * (L (ky P n s p) - u) := by
    have := Int.mul_le_mul_of_nonneg_left (show 1 ≤ L (ky P n s p) - u by omega) hM0
    omega
  refine L_ap (c0 := c0) (s0 := s0) (kd := P 1 s) hd14 b1.1 b1.2.1 hW b2 hs6 b3 ⟨hch.2.2.1, hch.2.2.2⟩ b10 hk9 (by omega) (ePj 1 s (by decide) (by decide)) hkd (by rw [keV_ky b1]; have := b1.2.2.2.2.2.2; omega) (fun w => ?_) (fun w B1 hU B2 hM Qi hQi => ?_)
  · rw [keV_ky b1] at w
    have hE := b6.2 s p u hslk hs2 b3 hch.2.2.1 w
    have elv := hs.2.2
    have := hE (f + 1) S r ch (by rw [elv]; exact hT0) c
    rw [elv] at this
    exact no this B k self
  · rw [keV_ky b1] at w
    rw [ePj 4 s (by decide) (by decide)] at hM
    rw [ePj 3 s (by decide) (by decide), ePj 5 s (by decide) (by decide)] at hQi
    have eW := Ww_ap (n := n) (tx := tx) (te := te) (P := P) (H := H) (f := f) (p := p) (u := u) (c := c) h0 hkd
    obtain ⟨u1, u2', u3, u4, u5, u6, u7, u8⟩ := PU_all hU b1
    obtain ⟨m1, m2, m3, m4, m5, m6, m7⟩ := MV_all hM u1
    have hF : WF B B2 := u2'.tr m2
    have hr : ∀ κ, rv B2 κ = rv B κ := fun κ => by rw [m3, u3]
    have hz : B2 103 1 = B 103 1 + 1 := by rw [m4, u4]
    have hps : PSm B B2 (B 103 1) := u5.tr (m5 _)
    have htop : B2 (pe B2) (B 103 1) = pkV 1 s u p := by rw [m5 (B 103 1 + 1) _ z0 (by omega), u6]
    have ps : Psi K Mx (opL L (ky P n s p) u) B2 (k + 1) = Psi K Mx L B k + 1 - Mx * (L (ky P n s p) - u) := by
      rw [Psi_k, Psi_same hr, Psi_open hky.1 hky.2]; omega
    have ps0 : Psi K Mx (opL L (ky P n s p) u) B2 0 + (k + 1) = Psi K Mx (opL L (ky P n s p) u) B2 (k + 1) := by
      have := Psi_k (K := K) (Mx := Mx) (B := B2) (L := opL L (ky P n s p) u) (k := 0) (j := k + 1)
      rw [Int.zero_add] at this
      exact this.symm
    have hL2 : ∀ κ, 0 ≤ κ → rv B2 κ ≤ opL L (ky P n s p) u κ := fun κ k0 => by rw [hr]; exact opL_ge b7 (by omega) κ k0
    have g1 : enO (pkV 1 s u p) ∧ pkV 1 s u p / 16777216 ≠ 2 := by unfold enO pkV; omega
    -- all failed: the step is closed
    have closeK : Ww n tx te P H (f + 1) 0 s p u c = [] → ∀ B7 k7, WI c0 s0 a t n te P H tx K B7 → WF B B7 → RSn n te P H tx K Mx B7 → (∀ κ, 0 ≤ κ → rv B κ ≤ rv B7 κ ∧ rv B7 κ ≤ opL L (ky P n s p) u κ) → B7 103 1 = B 103 1 + 1 → PSm B2 B7 (B 103 1 + 1) → MKs B7 c → k ≤ k7 → Psi K Mx (opL L (ky P n s p) u) B7 k7 ≤ Psi K Mx L B k - Mx * (L (ky P n s p) - u) + Mx → Fl h1 d 0 hgt Q k7 B7 := by
      intro hnil B7 k7 t1 t2 t3 t4 t5 t6 t7 t8 t9
      have e10 : B7 (pe B7) (B7 103 1 - 1) = pkV 1 s u p := by rw [t5, show B 103 1 + 1 - 1 = B 103 1 by omega, t6 _ z0 (by omega)]; exact htop
      refine Fl_close (c0 := c0) (s0 := s0) (L := L) (by omega) hK t1 t3 hs2 hslk b3 ⟨hch.2.2.1, hch.2.2.2⟩ (fun κ k0 => (t4 κ k0).2) hLs (emp_of h0 b3.2 hT0 hnil) ⟨hh.1, by omega⟩ e10 (fun B8 i1 i2 i3 i4 i5 i6 i7 i8 => ?_)
      have hrv7 : rv B7 (ky P n s p) ≤ u := by
        have := (t4 _ hky.1).2
        unfold opL at this
        rwa [if_pos rfl] at this
      have hFf : Mx ≤ Mx * (u + 1 - rv B7 (ky P n s p)) := by
        have := Int.mul_le_mul_of_nonneg_left (show 1 ≤ u + 1 - rv B7 (ky P n s p) by omega) hM0
        omega
      exact no hnil B8 k7 ⟨i1, t2.tr i2, i3, fun κ k0 => ⟨Int.le_trans (t4 κ k0).1 (i4 κ k0).1, (i4 κ k0).2⟩, by omega, (hps.tr (t6.le (by omega))).tr (i6.le (by omega)), fun i j0 j1 => by rw [i7]; exact t7 i j0 j1, t8, by omega⟩
    -- the entries of the walk apart are taken back, then the step is closed
    have closeB : Ww n tx te P H (f + 1) 0 s p u c = [] → ∀ B7 k7, WI c0 s0 a t n te P H tx K B7 → WF B B7 → RSn n te P H tx K Mx B7 → (∀ κ, 0 ≤ κ → rv B κ ≤ rv B7 κ ∧ rv B7 κ ≤ opL L (ky P n s p) u κ) → B 103 1 + 1 ≤ B7 103 1 → PSm B2 B7 (B 103 1 + 1) → (∀ j, B 103 1 + 1 ≤ j → j < B7 103 1 → B7 (pe B7) j / 16777216 = 2 ∧ B7 (pe B7) j / 16384 % 1024 < 20 ∧ enO (B7 (pe B7) j) ∧ B7 (pe B7) j % 1024 - 1 = c (B7 (pe B7) j / 16384 % 1024)) → (∀ i, 0 ≤ i → i < 20 → (∃ j, B 103 1 + 1 ≤ j ∧ j < B7 103 1 ∧ isU i (B7 (pe B7) j)) ∨ B7 107 i = c i) → k ≤ k7 → Psi K Mx (opL L (ky P n s p) u) B7 k7 ≤ Psi K Mx L B k - Mx * (L (ky P n s p) - u) + Mx → Fl h1 d 0 hgt Q k7 B7 := by
      intro hnil B7 k7 t1 t2 t3 t4 t5 t6 t7 t7' t8 t9
      refine Fl_block (c0 := c0) (s0 := s0) (z := B 103 1 + 1) (by omega) ⟨hh.1, by omega⟩ _ B7 rfl t5 t1 t7 t7' (fun B8 g1 g2 g3 g4 g5 g6 => ?_)
      exact closeK hnil B8 k7 g1 (t2.tr g2) (RSn_same t3 g3) (fun κ k0 => by rw [g3]; exact t4 κ k0) g4 (t6.tr g5) g6 t8 (by rw [Psi_same g3]; exact t9)
    -- on behind the walk apart
    have goK : ∀ (B4 : qB) (cc : qCp) (q : Int), WI c0 s0 a t n te P H tx K B4 → WF B B4 → RSn n te P H tx K Mx B4 → (∀ κ, 0 ≤ κ → rv B κ ≤ rv B4 κ ∧ rv B4 κ ≤ opL L (ky P n s p) u κ) → B 103 1 + 1 ≤ B4 103 1 → PSm B2 B4 (B 103 1 + 1) → BK S' B4 (B 103 1 + 1) c cc → MKs B4 cc → (∀ i, 0 ≤ i → i < 20 → -1 ≤ cc i ∧ cc i ≤ n) → p ≤ q → q ≤ n → (q = p ∨ P 1 s = 14) → Ww n tx te P H (f + 1) 0 s p u c = Ww n tx te P H f 0 (P 3 s) q (if q = p then u else P 5 s) cc → ∀ B5, MV c0 s0 B4 B5 (P 3 s) q (if q = p then u else P 5 s) → Lp h1 d 0 hgt Q (k + 1) B5 := by
      intro B4 cc q t1 t2 t3 t4 t5 t6 t7 t8 t9 q0 q1 q2 eq B5 hM5
      obtain ⟨y1, y2, y3, y4, y5, y6, y7⟩ := MV_all hM5 t1
      obtain ⟨k1, k2, k3⟩ := t7
      have pm := Psi_mono (K := K) (L := opL L (ky P n s p) u) (k := k) hM0 (fun κ k0 => show rv B2 κ ≤ rv B4 κ by rw [hr]; exact (t4 κ k0).1)
      have ps5 : Psi K Mx (opL L (ky P n s p) u) B5 (k + 1) = Psi K Mx (opL L (ky P n s p) u) B4 k + 1 := by rw [Psi_k, Psi_same y3]
      have ps2 : Psi K Mx (opL L (ky P n s p) u) B2 (k + 1) = Psi K Mx (opL L (ky P n s p) u) B2 k + 1 := Psi_k
      have htop4 : B4 (pe B4) (B 103 1) = pkV 1 s u p := by rw [t6 _ z0 (by omega)]; exact htop
      rw [eq] at ok
      refine ih 0 S (P 3 s) q (if q = p then u else P 5 s) (r - 1 - S'.length) c2 cc (opL L (ky P n s p) u) B5 (k + 1) hgt Q d trivial hd (e2 q q0 q1 q2) ⟨y1, y7, ⟨by omega, q1⟩, fun i i0 i1 => by rw [y6]; exact t8 i i0 i1, t9, RSn_same t3 y3, ⟨fun κ k0 => by rw [y3]; exact (t4 κ k0).2, Lim_open hK hs2 hslk b3 b8 hX (by split <;> omega) (fun g hg => (hst g hg).2 q q0 q1 q2)⟩, by omega, by omega, by omega⟩ (by omega) (fun o rest hw B' hB' => ok o rest hw B' ?_) (fun hw B7 k7 hB7 => ?_)
      · obtain ⟨x1, x2, x3, x4, x5, x6, x7, x8⟩ := hB'
        rw [y4] at x5 x6 x8
        have hp4 : PSm B4 B' (B4 103 1) := (y5 _).tr x6
        have e10 : B' (pe B') (B 103 1) = pkV 1 s u p := by rw [hp4 _ z0 (by omega)]; exact htop4
        refine ⟨x1, (t2.tr y2).tr x2, x3, fun κ k0 => ?_, ⟨by omega, by omega⟩, (hps.tr (t6.le (by omega))).tr (hp4.le (by omega)), x7, UN_way (by omega) (by rw [e10]; exact g1.1) (by rw [e10]; exact g1.2) (UN_block (S' := S') (z1 := B4 103 1) t5 (by decide) (fun j j0 j1 => ?_) (fun i i0 i1 => ?_) (by omega) x8)⟩
        · have := x4 κ k0
          rw [y3] at this
          exact ⟨Int.le_trans (t4 κ k0).1 this.1, Int.le_trans this.2 (opL_le hLs)⟩
        · rw [hp4 j (by omega) j1]
          exact k1 j j0 j1
        · rcases k2 i i0 i1 with ⟨j, j0, j1, j2⟩ | ⟨j0, j1⟩
          · exact Or.inl ⟨j, j0, j1, by rw [hp4 j (by omega) j1]; exact j2⟩
          · exact Or.inr ⟨fun j z1 z2 => by rw [hp4 j (by omega) z2]; exact j0 j z1 z2, j1⟩
      · obtain ⟨x1, x2, x3, x4, x5, x6, x7, x8, x9⟩ := hB7
        rw [y4] at x5 x6
        have hp4 : PSm B4 B7 (B4 103 1) := (y5 _).tr x6
        refine closeB (by rw [eq]; exact hw) B7 k7 x1 ((t2.tr y2).tr x2) x3 (fun κ k0 => ?_) (by omega) (t6.tr (hp4.le (by omega))) (fun j j0 j1 => ?_) (fun i i0 i1 => ?_) (by omega) (by omega)
        · have := x4 κ k0
          rw [y3] at this
          exact ⟨Int.le_trans (t4 κ k0).1 this.1, this.2⟩
        · rw [hp4 j (by omega) (by omega)]
          exact k1 j j0 (by omega)
        · rcases k2 i i0 i1 with ⟨j, j0, j1, j2⟩ | ⟨j0, j1⟩
          · exact Or.inl ⟨j, j0, by omega, by rw [hp4 j (by omega) j1]; exact j2⟩
          · exact Or.inr (by rw [x7 i i0 i1]; exact j1)
    -- the walk apart
    refine ih 1 S' (P 4 s) p 0 (r - 1) c1 c (opL L (ky P n s p) u) B2 0 (B1 103 1) Qi (d - 3) trivial (Or.inr ⟨rfl, by omega⟩) e1 ⟨m1, m7, b3, fun i i0 i1 => by rw [m6, u7]; exact b4 i i0 i1, b5, RSn_same b6 hr, ⟨hL2, Lim_open hK hs2 hslk b3 b8 hX (Or.inr ⟨rfl, hch.2.2.1⟩) (fun g hg => (hst g hg).1)⟩, by omega, Int.le_refl _, by omega⟩ (by omega) (fun o rest hw B3 hB3 => ?_) (fun hw B3 k3 hB3 => ?_)
    · -- it found a way
      obtain ⟨x1, x2, x3, x4, x5, x6, x7, x8⟩ := hB3
      have hmem : o ∈ Ww n tx te P H f 1 (P 4 s) p 0 c := by rw [hw]; exact List.mem_cons_self ..
      have hrg := Ww_rg f 1 (P 4 s) p 0 c b3.2 o hmem
      have hcr := Ww_cr f 1 (P 4 s) p 0 c b3.1 b3.2 b5 o hmem
      rw [hz] at x5 x6 x8
      have hz1 : B1 103 1 = B 103 1 + 1 := u4
      rw [hw] at eW
      dsimp only at eW
      refine hQi o.1 B3 x1.1 x1.2.1 (m2.tr x2) ⟨by omega, by omega⟩ (by omega) (by rw [hz1]; exact x8.1) (fun B4 hB4 => ?_)
      have hBK := BK_of hB4 (by rw [hz1]; exact x8)
      rw [hz1] at hB4 hBK
      obtain ⟨d1, d2, d3, d4, d5⟩ := DW_all hB4 x1
      have hsz := hB4.2.2.2.2.1
      have hrv4 : ∀ κ, 0 ≤ κ → rv B κ ≤ rv B4 κ ∧ rv B4 κ ≤ opL L (ky P n s p) u κ := fun κ k0 => by
        have := x4 κ k0
        rw [hr] at this
        rw [d3]
        exact this
      have hmk4 : MKs B4 o.2 := fun i i0 i1 => by rw [d5]; exact x7 i i0 i1
      refine ⟨fun q => ?_, fun q B5 hM5 => ?_⟩
      · have h8 : P 1 s = 8 := by
          apply Classical.byContradiction
          intro z
          exact q ⟨fun w => by omega, fun w => absurd w z⟩
        rw [if_pos h8] at eW
        have pm := Psi_mono (K := K) (L := opL L (ky P n s p) u) (k := k) hM0 (fun κ k0 => show rv B2 κ ≤ rv B4 κ by rw [hr]; exact (hrv4 κ k0).1)
        have ps2 : Psi K Mx (opL L (ky P n s p) u) B2 (k + 1) = Psi K Mx (opL L (ky P n s p) u) B2 k + 1 := Psi_k
        refine closeB eW B4 k d1 ((hF.tr x2).tr d2) (RSn_same x3 d3) hrv4 hsz.1 (x6.tr d4) hBK.1 (fun i i0 i1 => ?_) (Int.le_refl _) (by omega)
        rcases hBK.2.1 i i0 i1 with z | z
        · exact Or.inl z
        · exact Or.inr (by rw [hmk4 i i0 i1]; exact z.2)
      · have h8 : P 1 s ≠ 8 := fun z => by have := q.mpr z; omega
        rw [if_neg h8] at eW
        by_cases h7 : P 1 s = 7
        · rw [if_pos h7] at eW
          rw [if_neg (by omega), if_neg (by omega)] at hM5
          have e9 : (if p = p then u else P 5 s) = u := if_pos rfl
          exact goK B4 o.2 p d1 ((hF.tr x2).tr d2) (RSn_same x3 d3) hrv4 hsz.1 (x6.tr d4) hBK hmk4 hcr (Int.le_refl _) b3.2 (Or.inl rfl) (by rw [e9]; exact eW) B5 (by rw [e9]; exact hM5)
        · rw [if_neg h7] at eW
          have h14 : P 1 s = 14 := hkd.elim (fun z => absurd z h7) (fun z => z.elim (fun z => absurd z h8) id)
          have e9 : (if P 1 s = 14 ∧ p < o.1 then o.1 else p) = o.1 := by
            by_cases z : p < o.1
            · rw [if_pos ⟨h14, z⟩]
            · rw [if_neg (fun y => z y.2)]; have := hrg.1; omega
          have e10 : (if P 1 s = 14 ∧ p < o.1 then P 5 s else u) = (if o.1 = p then u else P 5 s) := by
            by_cases z : o.1 = p
            · rw [if_neg (fun y => by have := y.2; omega), if_pos z]
            · rw [if_pos ⟨h14, by have := hrg.1; omega⟩, if_neg z]
          rw [e9, e10] at hM5
          exact goK B4 o.2 o.1 d1 ((hF.tr x2).tr d2) (RSn_same x3 d3) hrv4 hsz.1 (x6.tr d4) hBK hmk4 hcr hrg.1 hrg.2 (Or.inr h14) eW B5 hM5
    · -- it found none
      obtain ⟨x1, x2, x3, x4, x5, x6, x7, x8, x9⟩ := hB3
      have hz1 : B1 103 1 = B 103 1 + 1 := u4
      rw [hz] at x5 x6
      rw [hw] at eW
      dsimp only at eW
      refine Fl_floor (by omega) x1.1 (by omega) ⟨by omega, by omega⟩ (hQi (-1) B3 x1.1 x1.2.1 (m2.tr x2) ⟨by decide, by decide⟩ (by omega) (fun j j0 j1 => by omega) (fun B4 hB4 => ?_))
      rw [hz1] at hB4
      obtain ⟨d1, d2, d3, d4, d5⟩ := DW_all hB4 x1
      have hsz := hB4.2.2.2.2.1
      have hrv4 : ∀ κ, 0 ≤ κ → rv B κ ≤ rv B4 κ ∧ rv B4 κ ≤ opL L (ky P n s p) u κ := fun κ k0 => by
        have := x4 κ k0
        rw [hr] at this
        rw [d3]
        exact this
      have hmk4 : MKs B4 c := fun i i0 i1 => by rw [d5]; exact x7 i i0 i1
      refine ⟨fun q => ?_, fun q B5 hM5 => ?_⟩
      · have h8 : P 1 s ≠ 8 := fun z => q ⟨fun _ => z, fun _ => rfl⟩
        rw [if_neg h8] at eW
        have pm := Psi_mono (K := K) (L := opL L (ky P n s p) u) (k := k) hM0 (fun κ k0 => show rv B2 κ ≤ rv B4 κ by rw [hr]; exact (hrv4 κ k0).1)
        have ps2 : Psi K Mx (opL L (ky P n s p) u) B2 (k + 1) = Psi K Mx (opL L (ky P n s p) u) B2 k + 1 := Psi_k
        exact closeK eW B4 k d1 ((hF.tr x2).tr d2) (RSn_same x3 d3) hrv4 (by omega) (x6.tr d4) hmk4 (Int.le_refl _) (by omega)
      · have h8 : P 1 s = 8 := q.mp rfl
        rw [if_pos h8] at eW
        rw [if_neg (by omega), if_neg (by omega)] at hM5
        have e9 : (if p = p then u else P 5 s) = u := if_pos rfl
        exact goK B4 c p d1 ((hF.tr x2).tr d2) (RSn_same x3 d3) hrv4 hsz.1 (x6.tr d4) ⟨fun j j0 j1 => by omega, fun i i0 i1 => Or.inr ⟨fun j j0 j1 => by omega, rfl⟩, by omega⟩ hmk4 b5 (Int.le_refl _) b3.2 (Or.inl rfl) (by rw [e9]; exact eW) B5 (by rw [e9]; exact hM5)
/-- a walk finds the first way -/
theorem Run_all (hM0 : 0 ≤ Mx) (hK : KYs n P K) : ∀ f, RunQ h1 c0 s0 a t n te P H tx K Mx f (fun _ => True) := by
  intro f
  induction f with
  | zero => intro lv S s p u r ch c L B k hgt Q d _ _ hT; exact hT.elim
  | succ f ih =>
    intro lv S s p u r ch c L B k hgt Q d _ hd hT hB hh ok no
    by_cases h0 : s = 0
    · exact Run_simple hM0 hK ih lv S s p u r ch c L B k hgt Q d (Or.inl h0) hd hT hB hh ok no
    · by_cases h1 : P 1 s = 15
      · exact Run_split hM0 hK ih lv S s p u r ch c L B k hgt Q d ⟨h0, h1⟩ hd hT hB hh ok no
      · by_cases h2 : P 1 s = 7 ∨ P 1 s = 8 ∨ P 1 s = 14
        · exact Run_ap hM0 hK ih lv S s p u r ch c L B k hgt Q d ⟨h0, h2⟩ hd hT hB hh ok no
        · exact Run_simple hM0 hK ih lv S s p u r ch c L B k hgt Q d (Or.inr (by unfold slk; omega)) hd hT hB hh ok no
end RAP
