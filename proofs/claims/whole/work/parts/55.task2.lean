/-! THE REFERENCE'S TASKS: rounds -/
section RTASK2
variable {m : Nat} {h0 : qH} {d : Nat} {B : qB} {Q : qO → qB → Prop} {t : Int}
/-- tasks alone have changed, from t on -/
def TS (t : Int) (b : Nat) (y : Int) : Prop := b < 60 ∨ 64 < b ∨ (b ≤ 63 ∧ y < t)
theorem ltB_fr {B B' : qB} {w a b c t : Int} (h : FrS (TS t) B B') (ht : t ≤ B' 64 0) : FrS (TS t) B (ltB B' w a b c) := by
  unfold ltB
  refine FrS.u2 (FrS.u2 (FrS.u2 (FrS.u2 (FrS.u2 h ?_) ?_) ?_) ?_) ?_ <;> unfold TS <;> omega
theorem ltB_64 {w a b c : Int} : ltB B w a b c 64 0 = B 64 0 + 1 := by unfold ltB; rw [u2_same]
theorem ltB_top {w a b c : Int} : ltB B w a b c 60 (B 64 0) = w ∧ ltB B w a b c 61 (B 64 0) = a ∧ ltB B w a b c 62 (B 64 0) = b ∧ ltB B w a b c 63 (B 64 0) = c := by
  refine ⟨?_, ?_, ?_, ?_⟩ <;> simp [ltB, u2]
theorem ltB_old {w a b c : Int} {bk : Nat} {y : Int} (h : y ≠ B 64 0) (h2 : bk ≠ 64) : ltB B w a b c bk y = B bk y := by
  unfold ltB
  rw [u2_bank h2, u2_idx h, u2_idx h, u2_idx h, u2_idx h]
theorem C_repeat (hm : m + 100 < 1000000000) {x l : Int} (h64 : B 64 0 = t + 1) (t0 : 0 ≤ t) (t1 : t < 5900) (h60 : B 60 t = 5) (h61 : B 61 t = x) (x0 : 0 ≤ x) (x1 : x < 3000) (r21 : R32 (B 21 x)) (h20 : B 20 x = l) (l0 : 0 ≤ l) (l1 : l ≤ 20)
    (k : ∀ B', B' 64 0 = t + 1 + l → B' 60 t = (if B 21 x < 0 then 6 else 8) → B' 61 t = x → B' 62 t = B 62 t → B' 63 t = -1 → (∀ i, t + 1 ≤ i → i < t + 1 + l → B' 60 i = 0 ∧ B' 61 i = B 18 x) → FrS (TS t) B B' → CL m h0 d B' Q) : CL m h0 d B Q := by
  generalize hB0 : u2 B 64 0 t = B0
  have f0 : FrS (TS t) B B0 := by rw [← hB0]; exact FrS.u2 FrS.refl (by unfold TS; omega)
  have e64 : B0 64 0 = t := by rw [← hB0, u2_same]
  -- the copies
  have L : ∀ (n : Nat) (i : Int) (B1 : qB), i + n = l → 0 ≤ i → B1 64 0 = t + 1 + i → FrS (TS t) B B1 → B1 60 t = (if B 21 x < 0 then 6 else 8) → B1 61 t = x → B1 62 t = B 62 t → B1 63 t = -1 → (∀ j, t + 1 ≤ j → j < t + 1 + i → B1 60 j = 0 ∧ B1 61 j = B 18 x) → qZ m h0 (d + 3) k_compile 227 [some (.ref m), none, some (iv x), none, none, some (iv i), none] [] B1 Q := by
    intro n
    induction n with
    | zero =>
      intro i B1 hi i0 q64 fr q60 q61 q62 q63 qc
      have q20 : B1 20 x = l := (fr 20 x (by unfold TS; omega)).trans h20
      refine r_compile_227_ok hm ?_
      unfold r_compile_227
      rw [q20]
      refine ⟨x0, x1, ⟨by omega, by omega⟩, ⟨by omega, by omega⟩, fun _ => ?_, fun q => by omega⟩
      unfold r_compile_427
      have hil : i = l := by omega
      subst hil
      exact k B1 q64 q60 q61 q62 q63 qc fr
    | succ n ih =>
      intro i B1 hi i0 q64 fr q60 q61 q62 q63 qc
      have q20 : B1 20 x = l := (fr 20 x (by unfold TS; omega)).trans h20
      have q18 : B1 18 x = B 18 x := fr 18 x (by unfold TS; omega)
      refine r_compile_227_ok hm ?_
      unfold r_compile_227
      rw [q20, q18]
      refine ⟨x0, x1, ⟨by omega, by omega⟩, ⟨by omega, by omega⟩, fun q => by omega, fun _ => ?_⟩
      refine qZ.mono (d := d + 1) (R_later hm (by omega) (by omega) ⟨rfl, ?_⟩) (by omega) (fun _ _ q => q)
      unfold r_compile_251
      obtain ⟨p1, p2, p3, p4⟩ := ltB_top (B := B1) (w := 0) (a := B 18 x) (b := 0) (c := 0)
      have o : ∀ bk y, y ≠ B1 64 0 → bk ≠ 64 → ltB B1 0 (B 18 x) 0 0 bk y = B1 bk y := fun bk y a b => ltB_old a b
      refine ih (i + 1) _ (by omega) (by omega) (by rw [ltB_64, q64]; omega) (ltB_fr fr (by omega)) (by rw [o 60 t (by omega) (by decide)]; exact q60) (by rw [o 61 t (by omega) (by decide)]; exact q61) (by rw [o 62 t (by omega) (by decide)]; exact q62) (by rw [o 63 t (by omega) (by decide)]; exact q63) (fun j j1 j2 => ?_)
      by_cases hj : j = B1 64 0
      · rw [hj]; exact ⟨p1, p2⟩
      · rw [o 60 j hj (by decide), o 61 j hj (by decide)]
        exact qc j j1 (by omega)
  have n218 : ∀ s, s = (if B 21 x < 0 then 6 else 8) → r_compile_218 m h0 (d + 2) x (B 62 t) s B0 Q := by
    intro s hs
    unfold r_compile_218
    refine qZ.mono (d := d + 1) (R_later hm (by omega) (by omega) ⟨rfl, ?_⟩) (by omega) (fun _ _ q => q)
    unfold r_compile_224
    obtain ⟨p1, p2, p3, p4⟩ := ltB_top (B := B0) (w := s) (a := x) (b := B 62 t) (c := -1)
    rw [e64] at p1 p2 p3 p4
    exact L l.toNat 0 _ (by omega) (by omega) (by rw [ltB_64, e64]; omega) (ltB_fr f0 (by omega)) (p1.trans hs) p2 p3 p4 (fun j j1 j2 => by omega)
  refine r_compile_16_ok hm ?_
  unfold r_compile_16
  rw [h64, show t + 1 - 1 = t by omega, h60, h61, hB0]
  refine ⟨⟨by omega, by omega⟩, fun q => by omega, fun _ => ⟨t0, by omega, ⟨by decide, by decide⟩, ⟨fun _ => ⟨fun _ => ⟨fun _ => ⟨fun _ => ⟨fun _ => ⟨fun q => absurd rfl q, fun _ => ⟨x0, x1, r21, fun q => n218 8 (by rw [if_neg (by omega)]), fun q => n218 6 (by rw [if_pos q])⟩⟩, fun q => absurd q (by decide)⟩, fun q => absurd q (by decide)⟩, fun q => absurd q (by decide)⟩, fun q => absurd q (by decide)⟩, fun q => absurd q (by decide)⟩⟩⟩
end RTASK2
