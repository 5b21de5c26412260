/-! THE CLASS'S CALLS: match -/
section KM
variable {h1 : qH} {d : Nat} {Q : qO → qB → Prop} {C C' B B' : qB} {c0 s0 : Int}
/-- what a program that stands gives the walker -/
theorem PG_use {p : Nat} (hp : p < 8) (hI : CIv c0 s0 C B) (h6 : ¬ B 6 (p : Int) = 0) {n : Int} (hn : 0 ≤ n) : ∃ (P : qP) (H : Int → Nat → Option Bool), Ly P H 1 (P 0 7) (tre B p) 0 0 (P 0 9) 0 0 0 ∧ (∀ j s, 1 ≤ j → j ≤ 6 → C (pa p + j) s = P j s) ∧ (∀ s (c : Nat), H s c = some (hoC C (pa p + 7) s (c : Int))) ∧ C (pa p) 9 = P 0 9 ∧ C (pa p) 8 = spc (tre B p) ∧ (0 ≤ spc (tre B p) ∧ spc (tre B p) ≤ 400) ∧ KYs n P (spc (tre B p) * (n + 1)).toNat ∧ TrO (tre B p) := by
  obtain ⟨g, hT, -⟩ := (hI.2.2.2.2.2.2.2.2.2 p hp).2 h6
  obtain ⟨⟨I, g1⟩, g2, g3, g4, g5, g6, g7, g8⟩ := g
  have hz := z_w2 (tre B p) hT.1 (by have := hT.2.2.2.2; omega) hT.2.1
  have hn' := z_nn (tre B p) hT.1
  have hsp := (stc_nn (tre B p) hT.1).2
  have e7 : pvw C (pa p) I 0 7 = C (pa p) 7 := rfl
  have e9 : pvw C (pa p) I 0 9 = C (pa p) 9 := rfl
  have hP : ∀ j s, 1 ≤ j → j ≤ 6 → C (pa p + j) s = pvw C (pa p) I j s := fun j s j1 j2 => by
    unfold pvw
    rw [if_neg (by omega)]
  refine ⟨pvw C (pa p) I, fun s c => some (hoC C (pa p + 7) s c), by rw [e7, e9]; exact g1, hP, fun s c => rfl, rfl, g4, ⟨hsp, by have := hT.2.2.2.2; omega⟩, KY_of hn hP e7 g3 g4 hsp g5, hT⟩
/-- the state after walks: the same as before for all that stays -/
def AW (c0 s0 : Int) (C C' : qB) : Prop := SH C' ∧ DI c0 s0 C' ∧ (∀ b x, b < 102 ∨ (108 ≤ b ∧ b < 112) → C' b x = C b x) ∧ ∀ x, C' 1000000000 x = C 1000000000 x
theorem AW.ci (h : AW c0 s0 C C') (hI : CIv c0 s0 C B) (g : ∀ b y, Pb b y → B' b y = B b y) : CIv c0 s0 C' B' := CI_fr hI h.1 h.2.1 (fun b x q => h.2.2.1 b x (by omega)) (WtI_fr hI.2.2.1.2 (fun x => h.2.2.1 _ _ (by omega))) h.2.2.2 g
theorem tx_at (hI : CIv c0 s0 C B) {t : Int} (t0 : 0 ≤ t) (t3 : t ≤ 3) : BY C (75 + 2 * t.toNat) (B 9 t) (txB B t) ∧ ob 1 (75 + 2 * t.toNat) ∧ bl (75 + 2 * t.toNat) = 1000 := by
  have hX := hI.2.2.2.2.2.2.2.2.1 t.toNat (by omega)
  rw [show ((t.toNat : Nat) : Int) = t by omega] at hX
  exact ⟨hX, (tx_ob (by omega)).1, (tx_ob (by omega)).2⟩
theorem pg_at (hI : CIv c0 s0 C B) (hO : OI B) {p : Int} (p0 : 0 ≤ p) (p7 : p ≤ 7) : R32 (C (pa p.toNat) 10) ∧ (C (pa p.toNat) 10 = -1 ↔ B 6 p = 0) := by
  have hP := hI.2.2.2.2.2.2.2.2.2 p.toNat (by omega)
  unfold PG at hP
  rw [show ((p.toNat : Nat) : Int) = p by omega] at hP
  by_cases z : B 6 p = 0
  · rw [(hP.1 z).1]
    exact ⟨⟨by decide, by decide⟩, fun _ => z, fun _ => rfl⟩
  · obtain ⟨g1, g2, -⟩ := hP.2 z
    have e := g1.2.2.2.2.2.1
    have w0 := (wR_bd (tre B p) g2.1).1
    have w1 := g2.2.2.2.2
    rw [e]
    exact ⟨⟨by omega, by omega⟩, fun q => by omega, fun q => absurd q z⟩
theorem MKs_grp {b : Int} {o : Int × qCp} (h : MKs C (upc (upc o.2 0 b) 1 o.1)) : ∀ i, 0 ≤ i → i < 20 → C 107 i = grp b o i := fun i i0 i1 => by
  rw [h i i0 i1]
  unfold upc grp
  by_cases q1 : i = 1
  · rw [if_pos q1, if_neg (by omega), if_pos q1]
  · rw [if_neg q1]
    by_cases q0 : i = 0
    · rw [if_pos q0, if_pos q0]
    · rw [if_neg q0, if_neg q0, if_neg q1]
theorem K_match {p t how a : Int} (hd : 40 ≤ d) (hI : CIv c0 s0 C B) (hO : OI B) (hc : c0 + 1 ≤ 900000000) (hp : R32 p) (ht : R32 t) (hh : R32 how) (ha : R32 a)
    (k1 : ¬ ((0 ≤ p ∧ p ≤ 7) ∧ (0 ≤ t ∧ t ≤ 3) ∧ 0 ≤ how ∧ how ≤ 2) → ∀ C', (∀ B' : qB, (∀ b y, Pb b y → B' b y = B b y) → CIv (c0 + 1) (s0 + 6) C' B') → Q (.inr "java/lang/IllegalArgumentException") C')
    (k2 : ((0 ≤ p ∧ p ≤ 7) ∧ (0 ≤ t ∧ t ≤ 3) ∧ 0 ≤ how ∧ how ≤ 2) → B 6 p = 0 → ∀ C', (∀ B' : qB, (∀ b y, Pb b y → B' b y = B b y) → CIv (c0 + 1) (s0 + 6) C' B') → Q (.inr "java/util/NoSuchElementException") C')
    (k3 : ((0 ≤ p ∧ p ≤ 7) ∧ (0 ≤ t ∧ t ≤ 3) ∧ 0 ≤ how ∧ how ≤ 2) → ¬ B 6 p = 0 → 0 < how → ¬ (0 ≤ a ∧ a ≤ B 9 t) → ∀ C', (∀ B' : qB, (∀ b y, Pb b y → B' b y = B b y) → CIv (c0 + 1) (s0 + 6) C' B') → Q (.inr "java/lang/IndexOutOfBoundsException") C')
    (k4 : ((0 ≤ p ∧ p ≤ 7) ∧ (0 ≤ t ∧ t ≤ 3) ∧ 0 ≤ how ∧ how ≤ 2) → ¬ B 6 p = 0 → (0 < how → 0 ≤ a ∧ a ≤ B 9 t) → rsM (B 9 t) (txB B t) (tre B p) how a = none → ∀ C', (∀ B' : qB, (∀ b y, Pb b y → B' b y = B b y) → CIv c0 s0 C' B') → Q (.inl (some (iv (-1)))) C')
    (k5 : ((0 ≤ p ∧ p ≤ 7) ∧ (0 ≤ t ∧ t ≤ 3) ∧ 0 ≤ how ∧ how ≤ 2) → ¬ B 6 p = 0 → (0 < how → 0 ≤ a ∧ a ≤ B 9 t) → ∀ s o, rsM (B 9 t) (txB B t) (tre B p) how a = some (s, o) → ∀ C', (∀ B' : qB, (∀ b y, Pb b y → b ≠ 50 → b ≠ 71 → B' b y = B b y) → B' 71 0 = 1 → (∀ i, 0 ≤ i → i < 20 → B' 50 i = grp s o i) → CIv c0 s0 C' B') → Q (.inl (some (iv o.1))) C') : qY h1 d n_P_match 0 [some (.ref 0), some (iv p), some (iv t), some (iv how), some (iv a), none, none, none, none] [] C Q := by
  obtain ⟨d, rfl, he⟩ := d_pos hd
  have thr : ∀ B', (∀ b y, Pb b y → B' b y = B b y) → CIv (c0 + 1) (s0 + 6) (thC C) B' := fun B' g => CI_th hI hc g
  have ctr := hI.2.1.ctr
  -- the walk
  have main : ((0 ≤ p ∧ p ≤ 7) ∧ (0 ≤ t ∧ t ≤ 3) ∧ 0 ≤ how ∧ how ≤ 2) → ¬ B 6 p = 0 → (0 < how → 0 ≤ a ∧ a ≤ B 9 t) → ∀ first last te : Int, first = (if how = 0 then 0 else a) → last = (if how = 2 then B 9 t else first) → te = (if how = 0 then 1 else 0) → c_P_match_113 h1 d first last (pa p.toNat) (75 + 2 * t.toNat) te C Q := by
    intro hr h6 har first last te hfi hla hte
    obtain ⟨hX, oT, bT⟩ := tx_at hI hr.2.1.1 hr.2.1.2
    have hn := hX.2.1
    rw [bT] at hn
    have en : ((p.toNat : Nat) : Int) = p := by omega
    obtain ⟨P, H, u1, u2', u3, u4, u5, u6, u7, u8⟩ := PG_use (p := p.toNat) (by omega) hI (by rw [en]; exact h6) (n := B 9 t) hn.1
    rw [en] at u1 u5 u6 u7 u8
    have hf : 0 ≤ first ∧ first ≤ B 9 t := by
      rw [hfi]
      by_cases z : how = 0
      · rw [if_pos z]; omega
      · rw [if_neg z]; exact har (by omega)
    have hl : first ≤ last ∧ last ≤ B 9 t := by
      rw [hla]
      split <;> omega
    have htx : ∀ q, 0 ≤ q → q < B 9 t → txB B t q = (fun q => byA C (75 + 2 * t.toNat) q) q := fun q q0 q1 => (hX.at q0 q1).symm
    unfold c_P_match_113
    refine R_wprep (c0 := c0) (s0 := s0) (n := B 9 t) (te := te) (tx := fun q => byA C (75 + 2 * t.toNat) q) (e := tre B p) (P := P) (H := H) (Mx := 2 * (znb (tre B p) + 2)) (by omega) hI.1 hI.2.1 (pa_ob (by omega)) oT (by rw [hte]; split <;> omega) u2' u3 (fun _ => rfl) hX.1 hn u5 u6 u7 (fun C1 W1 R1 f1 f2 f3 => ⟨rfl, W1.1, ?_⟩)
    have e9 : C1 (pa p.toNat) 9 = P 0 9 := by
      have := pa_le (p := p.toNat) (by omega)
      rw [f1 _ _ (by omega) (by omega) (by omega) (by omega)]
      exact u4
    have aw : ∀ C2, WI c0 s0 (pa p.toNat) (75 + 2 * t.toNat) (B 9 t) te P H (fun q => byA C (75 + 2 * t.toNat) q) (spc (tre B p) * (B 9 t + 1)).toNat C2 → WF C1 C2 → AW c0 s0 C C2 := fun C2 w1 w2 => ⟨w1.1, w1.2.1, fun b x q => by rw [w2.1 b x (by omega) (by omega) (by omega) (by omega) (by omega) (by omega)]; exact f1 b x (by omega) (by omega) (by omega) (by omega), fun x => by rw [w2.2 x]; exact f3 x⟩
    unfold c_P_match_116
    refine R_tryPlaces (e := tre B p) (by omega) u8 u1 u7 e9 ⟨hf.1, by omega⟩ ⟨by omega, hl.2⟩ W1 R1 (fun b o rest b0 b1 hb hw C2 W2 F2 R2 M2 => ?_) (fun hno C2 W2 F2 M2 => ?_)
    · have A2 := aw C2 W2 F2
      have rs : rsM (B 9 t) (txB B t) (tre B p) how a = some (b, o) := by
        unfold rsM
        by_cases z2 : how = 2
        · rw [if_pos z2]
          have z0 : ¬ how = 0 := by omega
          rw [if_neg z0] at hfi hte
          subst hfi hte
          exact fst_some htx _ _ b o rest hf.1 b0 (by omega) hb hw (by omega)
        · rw [if_neg z2]
          rw [if_neg z2] at hla
          have eb : b = first := by omega
          subst eb
          rw [← hfi, ← hte, mtl_tx htx hf.1 hf.2, hw]
      have mk := MKs_grp M2
      refine ⟨1, rfl, W2.1, ?_⟩
      unfold c_P_match_127
      refine ⟨⟨by decide, by decide⟩, fun _ => ?_, fun q => absurd q (by decide)⟩
      obtain ⟨d, rfl⟩ : ∃ e, d = e + 1 := ⟨d - 1, by omega⟩
      refine c_Wa_copyMarks_0_ok (n1 := 20) (by omega) W2.1 (SH.a W2.1 ⟨by decide +kernel, by decide, by decide, by decide⟩) (by decide) (by decide) ?_
      unfold c_Wa_copyMarks_0
      rw [show min (20 : Int) 20 = 20 by decide]
      refine ⟨⟨by decide, by decide⟩, by decide, by decide, by decide, rfl, SH_cp W2.1 (by decide), ?_⟩
      unfold c_P_match_143
      have o83 : ∀ b x, b ≠ 83 → cpC C2 107 0 83 0 20 b x = C2 b x := fun b x q => by unfold cpC; rw [if_neg (fun w => q w.1)]
      have i83 : ∀ x, 0 ≤ x → x < 20 → cpC C2 107 0 83 0 20 83 x = grp b o x := fun x x0 x1 => by
        unfold cpC
        rw [if_pos ⟨rfl, x0, by omega⟩, show x - 0 + 0 = x by omega]
        exact mk x x0 x1
      rw [o83 107 1 (by decide), mk 1 (by decide) (by decide)]
      have eg : grp b o 1 = o.1 := by unfold grp; rw [if_neg (by decide), if_pos rfl]
      rw [eg]
      refine k5 hr h6 har b o rs _ (fun B' g g71 g50 => ?_)
      have J := A2.ci (B' := fun b y => if b = 50 ∨ b = 71 then B b y else B' b y) hI (fun b y q => by
        by_cases z : b = 50 ∨ b = 71
        · rw [if_pos z]
        · rw [if_neg z]; exact g b y q (by omega) (by omega))
      have gg : ∀ b y, ¬ (b = 50 ∨ b = 71) → B' b y = (fun b y => if b = 50 ∨ b = 71 then B b y else B' b y) b y := fun b y q => (if_neg q).symm
      obtain ⟨j1, j2, j3, j4, j5, j6, j9, j10, j11, j12⟩ := J
      refine ⟨SH_cp W2.1 (by decide), DI_lo j2 (fun b x q _ => o83 b x (by omega)), ⟨CKB_fr j3.1 (fun x => o83 _ _ (by decide)), WtI_fr j3.2 (fun x => o83 _ _ (by decide))⟩, j4.fr (fun b x q => o83 b x (by omega)) (gg 2 0 (by omega)) (fun y _ _ => gg 1 y (by omega)), ?_, j6.fr (fun b x q => o83 b x (by omega)) (fun b y q => gg b y (by omega)), ?_, fun i i0 i1 => ?_, j11.fr (fun b x q => o83 b x (by omega)) (fun b y q => gg b y (by omega)), j12.fr (fun b x q => o83 b x (by omega)) (fun b y q => gg b y (by omega))⟩
      · unfold bOK
        rw [o83 _ _ (by decide)]
        exact j5
      · rw [o83 _ _ (by decide), gg 3 0 (by omega)]
        exact j9
      · rw [i83 i i0 i1, g71, if_neg (by decide), g50 i i0 i1]
    · have A2 := aw C2 W2 F2
      have rs : rsM (B 9 t) (txB B t) (tre B p) how a = none := by
        unfold rsM
        by_cases z2 : how = 2
        · rw [if_pos z2]
          have z0 : ¬ how = 0 := by omega
          rw [if_neg z0] at hfi hte
          rw [if_pos z2] at hla
          subst hfi hte hla
          exact fst_none htx _ _ hf.1 hno
        · rw [if_neg z2]
          rw [if_neg z2] at hla
          rw [← hfi, ← hte, mtl_tx htx hf.1 hf.2, hno first (Int.le_refl _) hl.1]
      refine ⟨0, rfl, W2.1, ?_⟩
      unfold c_P_match_127
      exact ⟨⟨by decide, by decide⟩, fun q => absurd rfl q, fun _ => k4 hr h6 har rs C2 (fun B' g => A2.ci hI g)⟩
  refine c_P_match_0_ok (by omega) hI.1 ?_
  unfold c_P_match_0
  refine K_prog (by omega) hI.1 hI.2.1 hp (fun q => Or.inr ⟨_, rfl, k1 (by omega) _ thr⟩) (fun p0 p7 => Or.inl ⟨_, rfl, pa_ob (by omega), hI.1, ?_⟩)
  unfold c_P_match_5
  refine K_text (by omega) hI.1 hI.2.1 ht (fun q => Or.inr ⟨_, rfl, k1 (by omega) _ thr⟩) (fun t0 t3 => Or.inl ⟨_, rfl, (tx_ob (by omega)).1, hI.1, ?_⟩)
  unfold c_P_match_12
  refine ⟨hh, fun q => ⟨ctr, k1 (by omega) _ thr⟩, fun h0 => ⟨fun h2 => ?_, fun q => ⟨ctr, k1 (by omega) _ thr⟩⟩⟩
  have hr : (0 ≤ p ∧ p ≤ 7) ∧ (0 ≤ t ∧ t ≤ 3) ∧ 0 ≤ how ∧ how ≤ 2 := ⟨⟨p0, p7⟩, ⟨t0, t3⟩, by omega, h2⟩
  obtain ⟨w1, w2⟩ := pg_at hI hO p0 p7
  obtain ⟨hX, oT, bT⟩ := tx_at hI t0 t3
  have hn := hX.2.1
  rw [bT] at hn
  refine K_pat (by omega) hI.1 hI.2.1 (pa_ob (by omega)) w1 (fun q => Or.inr ⟨_, rfl, k2 hr (w2.mp q) _ thr⟩) (fun q => Or.inl ⟨rfl, hI.1, ?_⟩)
  have h6 : ¬ B 6 p = 0 := fun z => q (w2.mpr z)
  have c67 : (0 < how → 0 ≤ a ∧ a ≤ B 9 t) → c_P_match_67 h1 d how a (pa p.toNat) (75 + 2 * t.toNat) C Q := by
    intro har
    have m2 := main hr h6 har
    unfold c_P_match_67 c_P_match_77 c_P_match_94
    rw [hX.1]
    refine ⟨hh, fun z0 => ⟨hh, fun z2 => ⟨hh, fun _ => m2 a a 0 (if_neg z0).symm (if_neg z2).symm (if_neg z0).symm, fun z => absurd z z0⟩, fun z2 => ⟨hh, fun _ => m2 a (B 9 t) 0 (if_neg z0).symm (if_pos z2).symm (if_neg z0).symm, fun z => absurd z z0⟩⟩, fun z0 => ⟨hh, fun z2 => ⟨hh, fun z => absurd z0 z, fun _ => m2 0 0 1 (if_pos z0).symm (if_neg z2).symm (if_pos z0).symm⟩, fun z2 => by omega⟩⟩
  unfold c_P_match_38
  rw [hX.1]
  refine ⟨hh, fun z => c67 (fun w => by omega), fun z => ⟨ha, fun q1 => ⟨ctr, k3 hr h6 (by omega) (by omega) _ thr⟩, fun q1 => ⟨⟨by omega, by omega⟩, fun q2 => c67 (fun _ => ⟨by omega, q2⟩), fun q2 => ⟨ctr, k3 hr h6 (by omega) (by omega) _ thr⟩⟩⟩⟩
end KM
