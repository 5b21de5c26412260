/-! THE CLASS'S CALLS: span -/
section KS
variable {h1 : qH} {d : Nat} {Q : qO → qB → Prop} {C B : qB} {c0 s0 : Int}
theorem K_span {p t inn : Int} (hd : 10 ≤ d) (hI : CIv c0 s0 C B) (hO : OI B) (hc : c0 + 1 ≤ 900000000) (hp : R32 p) (ht : R32 t) (hi : R32 inn)
    (k1 : ¬ ((0 ≤ p ∧ p ≤ 7) ∧ (0 ≤ t ∧ t ≤ 3) ∧ 0 ≤ inn ∧ inn ≤ 1) → ∀ C', (∀ B' : qB, (∀ b y, Pb b y → B' b y = B b y) → CIv (c0 + 1) (s0 + 6) C' B') → Q (.inr "java/lang/IllegalArgumentException") C')
    (k2 : ((0 ≤ p ∧ p ≤ 7) ∧ (0 ≤ t ∧ t ≤ 3) ∧ 0 ≤ inn ∧ inn ≤ 1) → B 6 p = 0 → ∀ C', (∀ B' : qB, (∀ b y, Pb b y → B' b y = B b y) → CIv (c0 + 1) (s0 + 6) C' B') → Q (.inr "java/util/NoSuchElementException") C')
    (k3 : ((0 ≤ p ∧ p ≤ 7) ∧ (0 ≤ t ∧ t ≤ 3) ∧ 0 ≤ inn ∧ inn ≤ 1) → ¬ B 6 p = 0 → alB B p = none → ∀ C', (∀ B' : qB, (∀ b y, Pb b y → B' b y = B b y) → CIv (c0 + 1) (s0 + 6) C' B') → Q (.inr "java/lang/ClassCastException") C')
    (k4 : ((0 ≤ p ∧ p ≤ 7) ∧ (0 ≤ t ∧ t ≤ 3) ∧ 0 ≤ inn ∧ inn ≤ 1) → ¬ B 6 p = 0 → ∀ s, alB B p = some s → Q (.inl (some (iv (spn s inn (B 9 t) (txB B t) 1001 0)))) C) : qY h1 d n_P_span 0 [some (.ref 0), some (iv p), some (iv t), some (iv inn), none, none, none] [] C Q := by
  obtain ⟨d, rfl, he⟩ := d_pos hd
  have thr : ∀ B', (∀ b y, Pb b y → B' b y = B b y) → CIv (c0 + 1) (s0 + 6) (thC C) B' := fun B' g => CI_th hI hc g
  have ctr := hI.2.1.ctr
  refine c_P_span_0_ok (by omega) hI.1 ?_
  unfold c_P_span_0
  refine K_prog (by omega) hI.1 hI.2.1 hp (fun q => Or.inr ⟨_, rfl, k1 (by omega) _ thr⟩) (fun p0 p7 => Or.inl ⟨_, rfl, pa_ob (by omega), hI.1, ?_⟩)
  unfold c_P_span_5
  refine K_text (by omega) hI.1 hI.2.1 ht (fun q => Or.inr ⟨_, rfl, k1 (by omega) _ thr⟩) (fun t0 t3 => Or.inl ⟨_, rfl, (tx_ob (by omega)).1, hI.1, ?_⟩)
  unfold c_P_span_12
  refine ⟨hi, fun q => ⟨ctr, k1 (by omega) _ thr⟩, fun h0 => ⟨fun h2 => ?_, fun q => ⟨ctr, k1 (by omega) _ thr⟩⟩⟩
  have hr : (0 ≤ p ∧ p ≤ 7) ∧ (0 ≤ t ∧ t ≤ 3) ∧ 0 ≤ inn ∧ inn ≤ 1 := ⟨⟨p0, p7⟩, ⟨t0, t3⟩, by omega, h2⟩
  obtain ⟨w1, w2⟩ := pg_at hI hO p0 p7
  obtain ⟨hX, oT, bT⟩ := tx_at hI t0 t3
  have hn := hX.2.1
  rw [bT] at hn
  refine K_pat (by omega) hI.1 hI.2.1 (pa_ob (by omega)) w1 (fun q => Or.inr ⟨_, rfl, k2 hr (w2.mp q) _ thr⟩) (fun q => Or.inl ⟨rfl, hI.1, ?_⟩)
  have h6 : ¬ B 6 p = 0 := fun z => q (w2.mpr z)
  have hP := hI.2.2.2.2.2.2.2.2.2 p.toNat (by omega)
  unfold PG at hP
  rw [show ((p.toNat : Nat) : Int) = p by omega] at hP
  have hA := (hP.2 h6).2.2
  have oP := pa_ob (p := p.toNat) (by omega)
  unfold c_P_span_38
  cases ha : alB B p with
  | none =>
    rw [ha] at hA
    have hA : C (pa p.toNat) 12 = -1 := hA
    rw [hA]
    exact ⟨⟨by decide, by decide⟩, fun q => absurd rfl q, fun _ => ⟨ctr, k3 hr h6 ha _ thr⟩⟩
  | some s =>
    rw [ha] at hA
    obtain ⟨hA1, hA2⟩ := hA
    have fin := k4 hr h6 s ha
    refine ⟨⟨by omega, by omega⟩, fun _ => ?_, fun q => by omega⟩
    have main : ∀ (N : Nat) (k : Int), k + N = 1001 → 0 ≤ k → k ≤ B 9 t → spn s inn (B 9 t) (txB B t) N k = spn s inn (B 9 t) (txB B t) 1001 0 → qY h1 (d + 1) n_P_span 60 [none, none, none, some (iv inn), some (.ref (pa p.toNat)), some (.ref (75 + 2 * t.toNat)), some (iv k)] [] C Q := by
      intro N
      induction N with
      | zero => intro k hk k0 k1 _; omega
      | succ N ih =>
        intro k hk k0 k1 hs
        have es : spn s inn (B 9 t) (txB B t) (N + 1) k = if k < B 9 t ∧ bi (s.testBit (txB B t k).toNat) = (if inn = 1 then 1 else 0) then spn s inn (B 9 t) (txB B t) N (k + 1) else k := rfl
        rw [es] at hs
        refine c_P_span_60_ok (by omega) hI.1 oP oT ?_
        unfold c_P_span_60
        rw [hX.1]
        refine ⟨⟨by omega, by omega⟩, ⟨by omega, by omega⟩, fun q => ?_, fun q => ?_⟩
        · rw [if_neg (by omega)] at hs
          rw [hs]; exact fin
        · have eb := hX.at k0 q
          have h5 := hO.2.2.2.2.1 (1000 * t + k) (by omega) (by omega)
          have h5' : txB B t k = B 5 (1000 * t + k) := rfl
          rw [eb]
          have eh := hA2 (txB B t k).toNat (by omega)
          rw [show (((txB B t k).toNat : Nat) : Int) = txB B t k by omega] at eh
          rw [← eh]
          have c97 : ∀ s1, s1 = (if inn = 1 then 1 else 0) → R32 s1 → c_P_span_97 h1 d inn (pa p.toNat) (75 + 2 * t.toNat) k (bi (s.testBit (txB B t k).toNat)) s1 C Q := by
            intro s1 e1 r1
            unfold c_P_span_97
            refine ⟨R32_bi _, r1, fun z => ?_, fun z => ?_⟩
            · rw [if_neg (fun w => z (by rw [e1]; exact w.2))] at hs
              rw [hs]; exact fin
            · rw [if_pos ⟨q, by rw [← e1]; exact z⟩] at hs
              exact ih (k + 1) (by omega) (by omega) (by omega) hs
          exact ⟨hX.ok, ⟨hA1.1, hA1.2, by omega, by omega⟩, hi, fun z => c97 0 (if_neg z).symm ⟨by decide, by decide⟩, fun z => c97 1 (if_pos z).symm ⟨by decide, by decide⟩⟩
    exact main 1001 0 (by decide) (Int.le_refl _) hn.1 rfl
end KS
