/-! THE REFERENCE'S COMPILER: rounds that may be -/
theorem opts {m : Nat} {h0 : qH} {d : Nat} {Q : qO → qB → Prop} {u : qT} (hu : TT u) (hm : m + 100 < 1000000000) {y b t sp mk : Int} {ctx : List Int} {B : qB} (hw : wf u) (hn : nd B (B 28 0) (B 29 0) u y) (hN : B 28 0 ≤ 3000) (hM : B 29 0 ≤ 256) (t0 : 0 ≤ t) (hL : ctx.length + sd u ≤ 10) (hL0 : ctx.length ≤ 10) : ∀ (n : Nat) (i : Int) (Bi : qB), 0 ≤ i → CX Bi ctx (b + i * (cl u + 1)) (t + 1 + 2 * n) → (∀ j, 0 ≤ j → j < n → Bi 60 (t + 1 + 2 * j) = 0 ∧ Bi 61 (t + 1 + 2 * j) = y ∧ Bi 60 (t + 2 + 2 * j) = 9) → t + 1 + 2 * n + th u ≤ 5880 → b + (i + n) * (cl u + 1) ≤ 5980 → Bi 48 0 = sp + i * (cs u + 1) → sp + (i + n) * (cs u + 1) ≤ 1990 → Bi 47 0 = mk + i * cm u → mk + (i + n) * cm u ≤ 790 → 0 ≤ sp → 0 ≤ mk → FrS (CF b (t + 1) sp mk) B Bi → (∀ j, 0 ≤ j → j < i → Bi 42 (b + j * (cl u + 1)) = 1 ∧ SpA Bi (Bi 48 0) (b + j * (cl u + 1)) ctx ∧ Seg Bi (Bi 48 0) (Bi 47 0) u (b + j * (cl u + 1) + 1) ctx (mk + j * cm u)) →
    (∀ B', CX B' ctx (b + (i + n) * (cl u + 1)) (t + 1) → B' 48 0 = sp + (i + n) * (cs u + 1) → B' 47 0 = mk + (i + n) * cm u → FrS (CF b (t + 1) sp mk) B B' → (∀ j, 0 ≤ j → j < i + n → B' 42 (b + j * (cl u + 1)) = 1 ∧ SpA B' (B' 48 0) (b + j * (cl u + 1)) ctx ∧ Seg B' (B' 48 0) (B' 47 0) u (b + j * (cl u + 1) + 1) ctx (mk + j * cm u)) → CL m h0 d B' Q) → CL m h0 d Bi Q := by
  obtain ⟨nu, ns, nm⟩ := cl_nn u hw
  have tu := th_pos u
  intro n
  induction n with
  | zero =>
    intro i Bi i0 hX hT ht ha h48 hs h47 hk sp0 mk0 fr hS kk
    have e : i + ((0 : Nat) : Int) = i := by simp
    rw [e] at kk
    refine kk Bi ?_ h48 h47 fr hS
    have e2 : t + 1 + 2 * ((0 : Nat) : Int) = t + 1 := by simp
    rw [e2] at hX
    exact hX
  | succ n ih =>
    intro i Bi i0 hX hT ht ha h48 hs h47 hk sp0 mk0 fr hS kk
    have en : i + ((n + 1 : Nat) : Int) = i + 1 + (n : Int) := by omega
    rw [en] at ha hs hk kk
    have ic : 0 ≤ i * (cl u + 1) := Int.mul_nonneg i0 (by omega)
    have is : 0 ≤ i * (cs u + 1) := Int.mul_nonneg i0 (by omega)
    have im := Int.mul_nonneg i0 nm
    have m1 : (i + 1) * (cl u + 1) = i * (cl u + 1) + (cl u + 1) := by rw [Int.add_mul, Int.one_mul]
    have m2 : (i + 1) * (cs u + 1) = i * (cs u + 1) + (cs u + 1) := by rw [Int.add_mul, Int.one_mul]
    have m3 : (i + 1) * cm u = i * cm u + cm u := by rw [Int.add_mul, Int.one_mul]
    have l1 : (i + 1) * (cl u + 1) ≤ (i + 1 + n) * (cl u + 1) := Int.mul_le_mul_of_nonneg_right (by omega) (by omega)
    have l2 : (i + 1) * (cs u + 1) ≤ (i + 1 + n) * (cs u + 1) := Int.mul_le_mul_of_nonneg_right (by omega) (by omega)
    have l3 : (i + 1) * cm u ≤ (i + 1 + n) * cm u := Int.mul_le_mul_of_nonneg_right (by omega) nm
    have hX' : CX Bi ctx (b + i * (cl u + 1)) (t + 2 + 2 * n + 1) := by rw [show t + 2 + 2 * (n : Int) + 1 = t + 1 + 2 * ((n + 1 : Nat) : Int) by omega]; exact hX
    obtain ⟨p1, p2, p3⟩ := hT n (by omega) (by omega)
    have b0 : 0 ≤ b + i * (cl u + 1) := hX.2.2.2.2.2.1
    have h46 : Bi 46 0 = b + i * (cl u + 1) := hX.1
    generalize hpc : b + i * (cl u + 1) = pc at *
    refine C_split hm (ctx := ctx) hX'.2.1 (by omega) (by omega) p3 (by omega) (by omega) (by omega) (by omega) hX'.2.2.1 hX'.2.2.2.1 ?_
    obtain ⟨c1, c2⟩ := X_pop hX' (by omega)
    obtain ⟨x1, x2, x3, x4, x5, x6, x7, x8, x9⟩ := X_em1 (c := 1) (x := 0) (y := 0) c1 (Or.inl rfl) hL0
    have e48 : (u2 Bi 64 0 (t + 2 + 2 * n)) 48 0 = Bi 48 0 := u2_bank (by decide)
    have e47 : (u2 Bi 64 0 (t + 2 + 2 * n)) 47 0 = Bi 47 0 := u2_bank (by decide)
    rw [e48, e47] at x2
    rw [e48] at x3 x8
    rw [e47] at x4
    rw [h46]
    generalize u2 (em1 (u2 Bi 64 0 (t + 2 + 2 * n)) 1 0 0 ctx.length) 46 0 (pc + 1) = E at *
    have fE : FrS (CF pc (t + 2 + 2 * n) (Bi 48 0) (Bi 47 0)) Bi E := CF_tr (TS_to c2) x2 (Int.le_refl _) (Int.le_refl _) (Int.le_refl _) (Int.le_refl _)
    clear x9 x2 c1 c2 x6 x7
    have frE : FrS (CF b (t + 1) sp mk) B E := CF_tr fr fE (by omega) (by omega) (by omega) (by omega)
    have xX : CX E ctx (pc + 1) (t + 1 + 2 * n + 1) := by rw [show t + 1 + 2 * (n : Int) + 1 = t + 2 + 2 * n by omega]; exact x1
    refine hu m h0 d Q y (pc + 1) (t + 1 + 2 * n) ctx E hm (nd_CF frE hn) hw (by rw [CF41 frE (by decide)]; exact hN) (by rw [CF41 frE (by decide)]; exact hM) xX (by omega) ((fE 60 _ (by unfold CF; omega)).trans p1) ((fE 61 _ (by unfold CF; omega)).trans p2) (by omega) (by omega) (by omega) (by omega) hL (fun B' q1 q2 q3 q4 q5 => ?_)
    have fB : FrS (CF pc (t + 1 + 2 * n) (Bi 48 0) (Bi 47 0)) Bi B' := CF_tr (CF_mono fE (Int.le_refl _) (by omega) (Int.le_refl _) (Int.le_refl _)) q4 (by omega) (Int.le_refl _) (by omega) (by omega)
    refine ih (i + 1) B' (by omega) (by rw [m1, show b + (i * (cl u + 1) + (cl u + 1)) = pc + 1 + cl u by omega]; exact q1) (fun j j0 j1 => ?_) (by omega) ha (by omega) hs (by omega) hk sp0 mk0 (CF_tr frE q4 (by omega) (by omega) (by omega) (by omega)) (fun j j0 j1 => ?_) kk
    · obtain ⟨r1, r2, r3⟩ := hT j j0 (by omega)
      rw [fB 60 (t + 1 + 2 * j) (by unfold CF; omega), fB 61 (t + 1 + 2 * j) (by unfold CF; omega), fB 60 (t + 2 + 2 * j) (by unfold CF; omega)]
      exact ⟨r1, r2, r3⟩
    · by_cases hj : j = i
      · subst hj
        rw [hpc]
        refine ⟨(q4 42 pc (by unfold CF; omega)).trans x5, SpA_fr (S := Bi 48 0 + 1) (q4 45 pc (by unfold CF; omega)) (fun y _ y1 => q4 52 y (by unfold CF; omega)) (fun y _ y1 => q4 54 y (by unfold CF; omega)) (by omega) x8, Seg_J q5 (by omega)⟩
      · have := mul_in j0 (show j < i by omega) (show 0 ≤ cl u + 1 by omega)
        obtain ⟨r1, r2, r3⟩ := hS j j0 (by omega)
        refine ⟨(fB 42 _ (by unfold CF; omega)).trans r1, SpA_fr (fB 45 _ (by unfold CF; omega)) (fun y _ y1 => fB 52 y (by unfold CF; omega)) (fun y _ y1 => fB 54 y (by unfold CF; omega)) (by omega) r2, ?_⟩
        exact Seg_CF (t := 0) fB hw (by omega) (by omega) (by omega) r3
