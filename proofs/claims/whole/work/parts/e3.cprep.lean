/-! THE CLASS: the records are cleared -/
section CLR
variable {h1 : qH} {d : Nat} {Q : qO → qB → Prop}
theorem R_fill2 {a0 : Nat} {n0 x2 x3 : Int} {B0 : qB} (hn : 0 ≤ n0 ∧ n0 ≤ 67108864) (ha : a0 < 1000000000) (hx : 0 ≤ x2 ∧ x2 ≤ n0) (w : ∀ B', SH B' → (∀ b x, (b = a0 → x < 0 ∨ x2 ≤ x) → B' b x = B0 b x) → (∀ x, 0 ≤ x → x < x2 → B' a0 x = x3) → Q (.inl none) B') : ∀ (N : Nat) (B : qB) (x4 : Int), (x2 - x4).toNat < N → 0 ≤ x4 → x4 ≤ x2 → SH B → isA B 1 a0 n0 → (∀ b x, (b = a0 → x < 0 ∨ x4 ≤ x) → B b x = B0 b x) → (∀ x, 0 ≤ x → x < x4 → B a0 x = x3) → qY h1 (d + 1) n_Ar_fill_AIIIIV 10 [some (.ref a0), none, some (iv x2), some (iv x3), some (iv x4)] [] B Q := by
  intro N
  induction N with
  | zero => intro B x4 h; exact absurd h (Nat.not_lt_zero _)
  | succ N ih =>
    intro B x4 hN h0 h2 hS hA hf hv
    refine c_Ar_fill_AIIIIV_10_ok (by omega) hS hA hn.2 ha ?_
    unfold c_Ar_fill_AIIIIV_10
    refine ⟨⟨by omega, by omega⟩, ⟨by omega, by omega⟩, fun q => w B hS (fun b x hx => hf b x (fun e => by have := hx e; omega)) (fun x y0 y1 => hv x y0 (by omega)), fun q => ⟨h0, by omega, ?_⟩⟩
    refine ih _ (x4 + 1) (by omega) (by omega) (by omega) (SH_u2 hS h0) ⟨by rw [u2_idx (by omega)]; exact hA.1, hA.2⟩ (fun b x hx => ?_) (fun x y0 y1 => ?_)
    · by_cases e : b = a0
      · have := hx e
        subst e
        rw [u2_idx (by omega)]
        exact hf _ _ (fun _ => by omega)
      · rw [u2_bank e]
        exact hf b x (fun q => absurd q e)
    · by_cases e : x = x4
      · subst e; exact u2_same
      · rw [u2_idx e]
        exact hv x y0 (by omega)
theorem nib_0 {j : Nat} (hj : j < 8) : nib 0 j = 0 := by
  have : ∀ j : Fin 8, nib 0 j = 0 := by decide +kernel
  exact this ⟨j, hj⟩
end CLR
