/-! THE CLASS'S CALLS: find -/
section KF
variable {h1 : qH} {d : Nat} {Q : qO → qB → Prop} {C C' B B' : qB} {c0 s0 : Int} {a t : Nat} {n te : Int} {tx ty : Int → Int} {e : qT} {P : qP} {H : Int → Nat → Option Bool} {K : Nat} {Mx : Int}
/-- what the walker does not look at -/
theorem WI_lo (h : WI c0 s0 a t n te P H tx K C) (hS : SH C') (ht : t < 83) (f : ∀ b x, ¬ (b = 88 ∨ b = 89 ∨ (108 ≤ b ∧ b < 112)) → C' b x = C b x) : WI c0 s0 a t n te P H tx K C' ∧ ∀ κ, rv C' κ = rv C κ := by
  obtain ⟨h1, h2, h3, h4, h5, h6, h7⟩ := h
  have al := pr_lt h3.2.1
  have ef : fe C' = fe C := by unfold fe; rw [f 105 0 (by omega)]
  have hfe := fe_ne h2
  have er : ∀ i, C' (fe C) i = C (fe C) i := fun i => f _ _ (by omega)
  refine ⟨⟨hS, DI_lo h2 (fun b x q q' => f b x (by omega)), ?_, fun j s j0 j1 => by rw [f _ _ (by omega)]; exact h4 j s j0 j1, fun s c => ?_, fun p => ?_, by rw [el_same h2 ef (er _)]; exact h7⟩, rv_same ef er⟩
  · obtain ⟨g1, g2, g3, g4, g5, g6, g7, g8⟩ := h3
    exact ⟨by rw [f _ _ (by omega)]; exact g1, g2, by rw [f _ _ (by omega)]; exact g3, g4, by rw [f _ _ (by omega)]; exact g5, g6, by rw [f _ _ (by omega)]; exact g7, g8⟩
  · rw [h5 s c, hoC_f8 (C := C) (fun x => f _ _ (by omega))]
  · rw [← h6 p]
    unfold byA
    rw [f t 1 (by omega), f (t + 1) p (by omega)]
/-- a match more -/
theorem fo_fr {fd : Nat} {x y : Int} : ∀ b z, b ≠ fd → b ≠ fd + 1 → foC C fd x y b z = C b z := fun b z q1 q2 => by
  unfold foC
  rw [u2_bank q1, u2_bank q2, u2_bank q2]
theorem fo_at {fd : Nat} {x y k : Int} {l : List (Int × (Int × qCp))} {r : Int × (Int × qCp)} (hk : C fd 1 = k) (hl : k = l.length) (hr : ∀ i, 0 ≤ i → i < k → C (fd + 1) (2 * i) = bgn l i ∧ C (fd + 1) (2 * i + 1) = edn l i) (hx : x = r.1) (hy : y = r.2.1) : foC C fd x y fd 1 = k + 1 ∧ ∀ i, 0 ≤ i → i < k + 1 → foC C fd x y (fd + 1) (2 * i) = bgn (l ++ [r]) i ∧ foC C fd x y (fd + 1) (2 * i + 1) = edn (l ++ [r]) i := by
  have e1 : foC C fd x y fd 1 = C fd 1 + 1 := by unfold foC; exact u2_same
  have e2 : ∀ z, foC C fd x y (fd + 1) z = (u2 (u2 C (fd + 1) (2 * k) x) (fd + 1) (2 * k + 1) y) (fd + 1) z := fun z => by
    unfold foC
    rw [hk]
    exact u2_bank (by omega)
  refine ⟨by rw [e1, hk], fun i i0 i1 => ?_⟩
  rw [e2, e2]
  by_cases q : i = k
  · subst q
    have hb := bgn_last (l := l) (r := []) (x := r)
    rw [← hl] at hb
    rw [u2_idx (show 2 * i ≠ 2 * i + 1 by omega), u2_same, u2_same, hb.1, hb.2]
    exact ⟨hx, hy⟩
  · have hb := bgn_app (l := l) (r := [r]) i0 (by omega)
    rw [u2_idx (show 2 * i ≠ 2 * k + 1 by omega), u2_idx (show 2 * i ≠ 2 * k by omega), u2_idx (show 2 * i + 1 ≠ 2 * k + 1 by omega), u2_idx (show 2 * i + 1 ≠ 2 * k by omega), hb.1, hb.2]
    exact hr i i0 (by omega)
theorem allM_nil {f : Nat} {s : Int} (h : n < s) : allM n tx e f s = [] := by
  cases f with
  | zero => rfl
  | succ f =>
    unfold allM
    rw [show (n + 1 - s).toNat = 0 by omega]
    rfl
theorem allM_none {f : Nat} {s : Int} (h : fstM n tx e 0 (n + 1 - s).toNat s = none) : allM n tx e f s = [] := by
  cases f with
  | zero => rfl
  | succ f =>
    unfold allM
    rw [h]
theorem allM_some {f : Nat} {s b : Int} {o : Int × qCp} (hf : 0 < f) (h : fstM n tx e 0 (n + 1 - s).toNat s = some (b, o)) : allM n tx e f s = (b, o) :: allM n tx e (f - 1) (if o.1 = b then o.1 + 1 else o.1) := by
  obtain ⟨f, rfl⟩ : ∃ g, f = g + 1 := ⟨f - 1, by omega⟩
  show (match fstM n tx e 0 (n + 1 - s).toNat s with
    | none => []
    | some (b, o) => (b, o) :: allM n tx e f (if o.1 = b then o.1 + 1 else o.1)) = _
  rw [h]
  rfl
theorem pl_nx {b : Int} {o : Int × qCp} (h0 : C 107 0 = b) (h1 : C 107 1 = o.1) (hb : b ≤ o.1) : plB C = (if o.1 = b then o.1 + 1 else o.1) := by
  unfold plB
  rw [h0, h1]
  by_cases q : o.1 = b
  · rw [if_neg (by omega), if_pos q]
  · rw [if_pos (by omega), if_neg q]
/-- what the search has changed -/
def FrF (fd : Nat) (C C' : qB) : Prop := (∀ b x, b < 102 ∨ (108 ≤ b ∧ b < 112 ∧ b ≠ fd ∧ b ≠ fd + 1) → C' b x = C b x) ∧ ∀ x, C' 1000000000 x = C 1000000000 x
theorem L_find {fd : Nat} {C0 : qB} (hd : 40 ≤ d) (hT : TrO e) (hL : Ly P H 1 (P 0 7) e 0 0 (P 0 9) 0 0 0) (hK : KYs n P (spc e * (n + 1)).toNat) (h9 : C0 a 9 = P 0 9) (ha : a < 75) (hn : 0 ≤ n ∧ n ≤ 300) (oT : ob 1 t) (ht : t < 83) (hfd : ob 3 fd ∧ (fd = 108 ∨ fd = 110)) (hf0 : C0 0 10 = ((fd : Nat) : Int)) (htx : ∀ q, 0 ≤ q → q < n → tx q = ty q) {L : List (Int × (Int × qCp))}
    (w : ∀ C', SH C' → DI c0 s0 C' → FrF fd C0 C' → C' fd 1 = L.length → (∀ i : Int, 0 ≤ i → i < L.length → C' (fd + 1) (2 * i) = bgn L i ∧ C' (fd + 1) (2 * i + 1) = edn L i) → Q (.inl (some (iv L.length))) C') : ∀ (N : Nat) (k fm : Int) (l : List (Int × (Int × qCp))) (C : qB), (301 - k).toNat < N → 0 ≤ k → k ≤ 301 → k = l.length → k ≤ fm → fm ≤ n + 1 → WI c0 s0 a t n 0 P H ty (spc e * (n + 1)).toNat C → RSn n 0 P H ty (spc e * (n + 1)).toNat (2 * (znb e + 2)) C → FrF fd C0 C → C fd 1 = k → (∀ i, 0 ≤ i → i < k → C (fd + 1) (2 * i) = bgn l i ∧ C (fd + 1) (2 * i + 1) = edn l i) → L = l ++ allM n tx e (1002 - k).toNat fm → qY h1 (d + 1) n_P_find 46 [some (.ref 0), none, none, none, some (.ref t), some (iv fm), some (iv k)] [] C Q := by
  intro N
  induction N with
  | zero => intro k fm l C h; exact absurd h (Nat.not_lt_zero _)
  | succ N ih =>
    intro k fm l C hN k0 k1 hl hkf hfn hW hR hF hk hr hLl
    have e10 : (C 0 10).toNat = fd := by rw [hF.1 0 10 (by omega), hf0]; omega
    have hnt : C t 1 = n := hW.2.2.1.2.2.2.2.1
    have done : allM n tx e (1002 - k).toNat fm = [] → ∀ C', SH C' → DI c0 s0 C' → FrF fd C0 C' → C' fd 1 = k → (∀ i, 0 ≤ i → i < k → C' (fd + 1) (2 * i) = bgn l i ∧ C' (fd + 1) (2 * i + 1) = edn l i) → Q (.inl (some (iv k))) C' := by
      intro q C' s1 s2 s3 s4 s5
      rw [q, List.append_nil] at hLl
      subst hLl
      have := w C' s1 s2 s3 (by rw [s4]; exact hl) (fun i i0 i1 => s5 i i0 (by omega))
      rw [← hl] at this
      exact this
    refine c_P_find_46_ok (by omega) hW.1 oT ?_
    unfold c_P_find_46
    rw [e10, hk, hnt]
    refine ⟨⟨by omega, by omega⟩, fun q => ⟨hfd.1, done (allM_nil (by omega)) C hW.1 hW.2.1 hF hk hr⟩, fun q => ?_⟩
    refine R_tryPlaces (e := e) (by omega) hT hL hK (by rw [hF.1 _ _ (by omega)]; exact h9) ⟨by omega, by omega⟩ ⟨by omega, Int.le_refl _⟩ hW hR (fun b o rest b0 b1 hb hw C2 W2 F2 R2 M2 => ?_) (fun hno C2 W2 F2 M2 => ?_)
    · have g2 : ∀ b x, b < 102 ∨ (108 ≤ b ∧ b < 112) → C2 b x = C b x := fun b x q => F2.1 b x (by omega) (by omega) (by omega) (by omega) (by omega) (by omega)
      have mk := MKs_grp M2
      have m0 : C2 107 0 = b := by rw [mk 0 (by decide) (by decide)]; unfold grp; rw [if_pos rfl]
      have m1 : C2 107 1 = o.1 := by rw [mk 1 (by decide) (by decide)]; unfold grp; rw [if_neg (by decide), if_pos rfl]
      have hs : fstM n tx e 0 (n + 1 - fm).toNat fm = some (b, o) := fst_some htx _ _ b o rest (by omega) b0 b1 hb hw (by omega)
      have hbd := fstM_bd _ fm (by omega) b o hs
      refine ⟨1, rfl, W2.1, ?_⟩
      unfold c_P_find_68
      have e10' : (C2 0 10).toNat = fd := by rw [g2 0 10 (by omega)]; exact e10
      have hk2 : C2 fd 1 = k := by rw [g2 _ _ (by omega)]; exact hk
      rw [e10', hk2, m0, m1, fo_fr 107 0 (by omega) (by omega), fo_fr 107 1 (by omega) (by omega), m0, m1]
      refine ⟨⟨by decide, by decide⟩, fun q => absurd q (by decide), fun _ => ⟨hfd.1, k0, by omega, ⟨by omega, by omega⟩, ⟨by omega, by omega⟩, ?_⟩⟩
      have ep : plB (foC C2 fd b o.1) = (if o.1 = b then o.1 + 1 else o.1) := pl_nx (by rw [fo_fr 107 0 (by omega) (by omega)]; exact m0) (by rw [fo_fr 107 1 (by omega) (by omega)]; exact m1) hbd.2.2.1
      rw [ep]
      have hS3 : SH (foC C2 fd b o.1) := S_Fo_add W2.1 hfd.1 (by rw [hk2]; omega) (by rw [hk2]; omega)
      obtain ⟨W3, r3⟩ := WI_lo (C' := foC C2 fd b o.1) W2 hS3 ht (fun b x q => fo_fr b x (by omega) (by omega))
      obtain ⟨x1, x2⟩ := fo_at (C := C2) (x := b) (y := o.1) (r := (b, o)) hk2 hl (fun i i0 i1 => by rw [g2 _ _ (by omega), g2 _ _ (by omega)]; exact hr i i0 i1) rfl rfl
      have hnx : fm < (if o.1 = b then o.1 + 1 else o.1) ∧ (if o.1 = b then o.1 + 1 else o.1) ≤ n + 1 := by split <;> omega
      refine ih (k + 1) _ (l ++ [(b, o)]) _ (by omega) (by omega) (by omega) (by simp; exact hl) (by omega) hnx.2 W3 (RSn_same R2 r3) ⟨fun b x q => ?_, fun x => ?_⟩ x1 x2 ?_
      · rw [fo_fr b x (by omega) (by omega), g2 b x (by omega)]
        exact hF.1 b x q
      · rw [fo_fr _ x (by omega) (by omega), F2.2 x]
        exact hF.2 x
      · rw [hLl, allM_some (by omega) hs, List.append_assoc, show (1002 - k).toNat - 1 = (1002 - (k + 1)).toNat by omega]
        rfl
    · have g2 : ∀ b x, b < 102 ∨ (108 ≤ b ∧ b < 112) → C2 b x = C b x := fun b x q => F2.1 b x (by omega) (by omega) (by omega) (by omega) (by omega) (by omega)
      have e10' : (C2 0 10).toNat = fd := by rw [g2 0 10 (by omega)]; exact e10
      have hk2 : C2 fd 1 = k := by rw [g2 _ _ (by omega)]; exact hk
      refine ⟨0, rfl, W2.1, ?_⟩
      unfold c_P_find_68
      rw [e10', hk2]
      refine ⟨⟨by decide, by decide⟩, fun _ => ⟨hfd.1, done (allM_none (fst_none htx _ _ (by omega) hno)) C2 W2.1 W2.2.1 ⟨fun b x q => by rw [g2 b x (by omega)]; exact hF.1 b x q, fun x => by rw [F2.2 x]; exact hF.2 x⟩ hk2 (fun i i0 i1 => by rw [g2 _ _ (by omega), g2 _ _ (by omega)]; exact hr i i0 i1)⟩, fun q => absurd rfl q⟩
theorem K_find {p t : Int} (hd : 50 ≤ d) (hI : CIv c0 s0 C B) (hO : OI B) (hc : c0 + 1 ≤ 900000000) (hp : R32 p) (ht : R32 t)
    (k1 : ¬ ((0 ≤ p ∧ p ≤ 7) ∧ 0 ≤ t ∧ t ≤ 3) → ∀ C', (∀ B' : qB, (∀ b y, Pb b y → B' b y = B b y) → CIv (c0 + 1) (s0 + 6) C' B') → Q (.inr "java/lang/IllegalArgumentException") C')
    (k2 : ((0 ≤ p ∧ p ≤ 7) ∧ 0 ≤ t ∧ t ≤ 3) → B 6 p = 0 → ∀ C', (∀ B' : qB, (∀ b y, Pb b y → B' b y = B b y) → CIv (c0 + 1) (s0 + 6) C' B') → Q (.inr "java/util/NoSuchElementException") C')
    (k3 : ((0 ≤ p ∧ p ≤ 7) ∧ 0 ≤ t ∧ t ≤ 3) → ¬ B 6 p = 0 → 300 < B 9 t → ∀ C', (∀ B' : qB, (∀ b y, Pb b y → B' b y = B b y) → CIv (c0 + 1) (s0 + 6) C' B') → Q (.inr "java/lang/IndexOutOfBoundsException") C')
    (k4 : ((0 ≤ p ∧ p ≤ 7) ∧ 0 ≤ t ∧ t ≤ 3) → ¬ B 6 p = 0 → B 9 t ≤ 300 → ∀ l, l = allM (B 9 t) (txB B t) (tre B p) 1002 0 → ∀ C', (∀ B' : qB, (∀ b y, Pb b y → b ≠ 10 → b ≠ 11 → b ≠ 14 → B' b y = B b y) → B' 14 0 = l.length → (∀ i : Int, 0 ≤ i → i < l.length → B' 10 i = bgn l i ∧ B' 11 i = edn l i) → CIv c0 s0 C' B') → Q (.inl (some (iv l.length))) C') : qY h1 d n_P_find 0 [some (.ref 0), some (iv p), some (iv t), none, none, none, none] [] C Q := by
  obtain ⟨d, rfl, he⟩ := d_pos hd
  have thr : ∀ B', (∀ b y, Pb b y → B' b y = B b y) → CIv (c0 + 1) (s0 + 6) (thC C) B' := fun B' g => CI_th hI hc g
  refine c_P_find_0_ok (by omega) hI.1 ?_
  unfold c_P_find_0
  refine K_prog (by omega) hI.1 hI.2.1 hp (fun q => Or.inr ⟨_, rfl, k1 (by omega) _ thr⟩) (fun p0 p7 => Or.inl ⟨_, rfl, pa_ob (by omega), hI.1, ?_⟩)
  unfold c_P_find_5
  refine K_text (by omega) hI.1 hI.2.1 ht (fun q => Or.inr ⟨_, rfl, k1 (by omega) _ thr⟩) (fun t0 t3 => Or.inl ⟨_, rfl, (tx_ob (by omega)).1, hI.1, ?_⟩)
  have hr : (0 ≤ p ∧ p ≤ 7) ∧ 0 ≤ t ∧ t ≤ 3 := ⟨⟨p0, p7⟩, t0, t3⟩
  obtain ⟨w1, w2⟩ := pg_at hI hO p0 p7
  obtain ⟨hX, oT, bT⟩ := tx_at hI t0 t3
  have hn := hX.2.1
  rw [bT] at hn
  unfold c_P_find_11
  refine K_pat (by omega) hI.1 hI.2.1 (pa_ob (by omega)) w1 (fun q => Or.inr ⟨_, rfl, k2 hr (w2.mp q) _ thr⟩) (fun q => Or.inl ⟨rfl, hI.1, ?_⟩)
  have h6 : ¬ B 6 p = 0 := fun z => q (w2.mpr z)
  unfold c_P_find_17
  refine K_short (by omega) hI.1 hI.2.1 oT hX.ok (fun q => Or.inr ⟨_, rfl, k3 hr h6 (by rw [hX.1] at q; exact q) _ thr⟩) (fun q3 => Or.inl ⟨rfl, hI.1, ?_⟩)
  rw [hX.1] at q3
  obtain ⟨fo1, fo2⟩ := fd_ob hI.2.2.2.2.2.1
  have n10 : C 0 10 = (((C 0 10).toNat : Nat) : Int) := by have := hI.2.2.2.2.2.1.1; omega
  have h1011 := hI.2.2.2.2.2.1.1
  unfold c_P_find_22
  refine ⟨fo1, ?_⟩
  generalize hfd : (C 0 10).toNat = fd at *
  have S1 : SH (u2 C fd 1 0) := SH_u2 hI.1 (by decide)
  have D1 : DI c0 s0 (u2 C fd 1 0) := DI_lo hI.2.1 (fun b x q q' => u2_bank (by omega))
  have f1 : ∀ b x, b ≠ fd → (u2 C fd 1 0) b x = C b x := fun b x q => u2_bank q
  have e1 : (u2 C fd 1 0) fd 1 = 0 := u2_same
  revert S1 D1 f1 e1
  generalize u2 C fd 1 0 = C1
  intro S1 D1 f1 e1
  have en : ((p.toNat : Nat) : Int) = p := by omega
  obtain ⟨P, H, u1, u2', u3, u4, u5, u6, u7, u8⟩ := PG_use (p := p.toNat) (by omega) hI (by rw [en]; exact h6) (n := B 9 t) hn.1
  rw [en] at u1 u5 u6 u7 u8
  have pl := pa_le (p := p.toNat) (by omega)
  have htx : ∀ q, 0 ≤ q → q < B 9 t → txB B t q = (fun q => byA C (75 + 2 * t.toNat) q) q := fun q q0 q1 => (hX.at q0 q1).symm
  refine R_wprep (c0 := c0) (s0 := s0) (n := B 9 t) (te := 0) (tx := fun q => byA C (75 + 2 * t.toNat) q) (e := tre B p) (P := P) (H := H) (Mx := 2 * (znb (tre B p) + 2)) (by omega) S1 D1 (pa_ob (by omega)) oT (Or.inl rfl) (fun j s j0 j1 => by rw [f1 _ _ (by omega)]; exact u2' j s j0 j1) (fun s c => by rw [u3 s c, hoC_f8 (C := C) (fun x => f1 _ _ (by omega))]) (fun q => by unfold byA; rw [f1 _ _ (by omega), f1 _ _ (by omega)]) (by rw [f1 _ _ (by omega)]; exact hX.1) hn (by rw [f1 _ _ (by omega)]; exact u5) u6 u7 (fun C2 W2 R2 g1 g2 g3 => ⟨rfl, W2.1, ?_⟩)
  unfold c_P_find_40
  have F2 : FrF fd C C2 := ⟨fun b x q => by rw [g1 b x (by omega) (by omega) (by omega) (by omega)]; exact f1 b x (by omega), fun x => by rw [g3 x]; exact f1 _ _ (by omega)⟩
  have len := allM_len (n := B 9 t) (tx := txB B t) (e := tre B p) 1002 0 (Int.le_refl _)
  refine L_find (tx := txB B t) (e := tre B p) (C0 := C) (fd := fd) (L := allM (B 9 t) (txB B t) (tre B p) 1002 0) (by omega) u8 u1 u7 u4 (by omega) ⟨hn.1, q3⟩ oT (by omega) ⟨fo1, fo2⟩ n10 htx (fun C3 s3 d3 F3 x1 x2 => ?_) 302 0 0 [] C2 (by decide) (Int.le_refl _) (by decide) rfl (Int.le_refl _) (by omega) W2 R2 F2 (by rw [g1 _ _ (by omega) (by omega) (by omega) (by omega)]; exact e1) (fun i i0 i1 => by omega) rfl
  refine k4 hr h6 q3 _ rfl C3 (fun B' g gl ga => ?_)
  obtain ⟨j1, j2, j3, j4, j5, j6, j9, j10, j11, j12⟩ := hI
  have gg : ∀ b y, (1 ≤ b ∧ b ≤ 11) ∨ b = 14 ∨ b = 50 ∨ b = 71 → b ≠ 10 → b ≠ 11 → b ≠ 14 → B' b y = B b y := fun b y q => g b y q
  have F : ∀ b x, b < 102 → C3 b x = C b x := fun b x q => F3.1 b x (Or.inl q)
  have e10 : (C3 0 10).toNat = fd := by rw [F 0 10 (by decide)]; exact hfd
  refine ⟨s3, d3, ⟨CKB_fr j3.1 F3.2, WtI_fr j3.2 (fun x => F _ _ (by decide))⟩, j4.fr (fun b x q => F b x (by omega)) (gg 2 0 (by omega) (by decide) (by decide) (by decide)) (fun y _ _ => gg 1 y (by omega) (by decide) (by decide) (by decide)), ?_, ⟨?_, ?_⟩, ?_, j10.fr (fun x => F _ _ (by decide)) (fun b y q => gg b y (by omega) (by omega) (by omega) (by omega)), j11.fr (fun b x q => F b x (by omega)) (fun b y q => gg b y (by omega) (by omega) (by omega) (by omega)), j12.fr (fun b x q => F b x (by omega)) (fun b y q => gg b y (by omega) (by omega) (by omega) (by omega))⟩
  · unfold bOK
    rw [F _ _ (by decide)]
    exact j5
  · rw [F 0 10 (by decide), F 0 11 (by decide)]
    exact h1011
  · rw [e10]
    unfold FO
    rw [gl]
    refine ⟨x1, ⟨by omega, by omega⟩, fun i i0 i1 => ?_⟩
    have := x2 i i0 i1
    have g2' := ga i i0 i1
    rw [this.1, this.2, g2'.1, g2'.2]
    exact ⟨rfl, rfl⟩
  · rw [F 0 12 (by decide), gg 3 0 (by omega) (by decide) (by decide) (by decide)]
    exact j9
end KF
