/-! THE REFERENCE'S CALLS: span -/
/-- the set of a pattern that is one set alone -/
def sOf : qT → Option Nat
  | .add (.num k) (.var s) => if k = 0 then some s else none
  | _ => none
def alB (B : qB) (p : Int) : Option Nat := if 1 < B 6 p ∧ (B 4 (200 * p) = 91 ∨ B 4 (200 * p) = 46 ∨ (B 4 (200 * p) = 92 ∧ isKl (B 4 (200 * p + 1)) = true)) then sOf (tre B p) else none
/-- how many bytes from k on are in the set (in = 1) or not -/
def spn (s : Nat) (inn n : Int) (tx : Int → Int) : Nat → Int → Int
  | 0, k => k
  | N + 1, k => if k < n ∧ bi (s.testBit (tx k).toNat) = (if inn = 1 then 1 else 0) then spn s inn n tx N (k + 1) else k
section RSPAN
variable {m : Nat} {h0 : qH} {d : Nat} {B : qB} {Q : qO → qB → Prop}
def k17 : qT → Int
  | .num k => if k = 0 then 11 else 6 + k
  | .var _ => 0
  | .add _ _ => 1
  | .sub _ _ => 2
  | .neg _ => 1
  | .mulL k _ => if 1 ≤ k then 4 else if k = 0 then 5 else 6
  | .mulR _ _ => 3
theorem nd_17 {B : qB} {N M : Int} {e : qT} {x : Int} (h : nd B N M e x) : B 17 x = k17 e := by
  cases e with
  | num k => exact h.2.2.1
  | var s => exact h.2.2.1
  | add a b => exact h.2.2.1
  | sub a b => exact h.2.2.1
  | neg a => exact h.2.2.1
  | mulL k a => exact h.2.2.1
  | mulR a k => exact h.2.2.1
theorem k17_R (e : qT) (he : wf e) : R32 (k17 e) := by
  cases e with
  | num k => have hk : 0 ≤ k ∧ k ≤ 4 := he; rw [k17]; split <;> exact ⟨by omega, by omega⟩
  | var s => exact ⟨(by decide : (-2147483648 : Int) ≤ 0), (by decide : (0 : Int) < 2147483648)⟩
  | add a b => exact ⟨(by decide : (-2147483648 : Int) ≤ 1), (by decide : (1 : Int) < 2147483648)⟩
  | sub a b => exact ⟨(by decide : (-2147483648 : Int) ≤ 2), (by decide : (2 : Int) < 2147483648)⟩
  | neg a => exact ⟨(by decide : (-2147483648 : Int) ≤ 1), (by decide : (1 : Int) < 2147483648)⟩
  | mulL k a => rw [k17]; split <;> (try split) <;> exact ⟨by decide, by decide⟩
  | mulR a k => exact ⟨(by decide : (-2147483648 : Int) ≤ 3), (by decide : (3 : Int) < 2147483648)⟩
/-- the node alone -/
theorem alone_78 (hm : m + 100 < 1000000000) {e : qT} (hn : nd B (B 28 0) (B 29 0) e (B 34 0)) (hw : wf e) (hN : B 28 0 ≤ 1100) (hM : B 29 0 ≤ 200) (kN : sOf e = none → Q (.inl (some (iv (-1)))) B) (kS : ∀ s v, sOf e = some s → 0 ≤ v → v < 256 → (∀ c, 0 ≤ c → c < 256 → hasB B v c = s.testBit c.toNat) → Q (.inl (some (iv v))) B) : r_alone_78 m h0 d B Q := by
  have nw := nd_w hn
  have h17 := nd_17 hn
  unfold r_alone_78
  have R11 : ∀ v : Int, -1 ≤ v → v ≤ 20 → R32 v := fun v a b => ⟨by omega, by omega⟩
  cases e with
  | num k =>
    have hk : 0 ≤ k ∧ k ≤ 4 := hw
    have h' : B 17 (B 34 0) = if k = 0 then 11 else 6 + k := h17
    have hne : ¬ B 17 (B 34 0) = 1 := by rw [h']; split <;> omega
    exact ⟨nw.1, by omega, by rw [h']; split <;> exact R11 _ (by omega) (by omega), fun _ => kN rfl, fun q => absurd q hne⟩
  | var s =>
    have h' : B 17 (B 34 0) = 0 := h17
    rw [h']
    exact ⟨nw.1, by omega, R11 _ (by omega) (by omega), fun _ => kN rfl, fun q => absurd q (by decide)⟩
  | sub a b =>
    have h' : B 17 (B 34 0) = 2 := h17
    rw [h']
    exact ⟨nw.1, by omega, R11 _ (by omega) (by omega), fun _ => kN rfl, fun q => absurd q (by decide)⟩
  | mulL k a =>
    have h' : B 17 (B 34 0) = if 1 ≤ k then 4 else if k = 0 then 5 else 6 := h17
    have hne : ¬ B 17 (B 34 0) = 1 ∧ 0 ≤ B 17 (B 34 0) ∧ B 17 (B 34 0) ≤ 20 := by rw [h']; split <;> (try split) <;> omega
    exact ⟨nw.1, by omega, R11 _ (by omega) hne.2.2, fun _ => kN rfl, fun q => absurd q hne.1⟩
  | mulR a k =>
    have h' : B 17 (B 34 0) = 3 := h17
    rw [h']
    exact ⟨nw.1, by omega, R11 _ (by omega) (by omega), fun _ => kN rfl, fun q => absurd q (by decide)⟩
  | neg a =>
    have h' : B 17 (B 34 0) = 1 := h17
    obtain ⟨n1, n2, n3, n4, n5, n6, n7, n8, n9⟩ := hn
    have na := nd_w n4
    have h18 := nd_17 n4
    have r18 : R32 (B 17 (B 18 (B 34 0))) := by rw [h18]; exact k17_R a hw
    rw [h', n7]
    exact ⟨nw.1, by omega, R11 _ (by omega) (by omega), fun q => absurd rfl q, fun _ => ⟨na.1, by omega, r18, fun _ => kN rfl, fun _ => ⟨n5, by omega, R11 _ (by decide) (by decide), fun q => absurd q (by decide), fun _ => kN rfl⟩⟩⟩
  | add a b =>
    have h' : B 17 (B 34 0) = 1 := h17
    obtain ⟨n1, n2, n3, n4, n5, n6, n7⟩ := hn
    have na := nd_w n4
    have nb := nd_w n5
    have h18 := nd_17 n4
    have h19 := nd_17 n5
    have r18 : R32 (B 17 (B 18 (B 34 0))) := by rw [h18]; exact k17_R a hw.1
    have r19 : R32 (B 17 (B 19 (B 34 0))) := by rw [h19]; exact k17_R b hw.2
    refine ⟨nw.1, by omega, by rw [h']; exact R11 _ (by decide) (by decide), fun q => absurd h' q, fun _ => ⟨na.1, by omega, r18, fun q => kN ?_, fun q => ⟨nb.1, by omega, r19, fun q2 => ?_, fun q2 => kN ?_⟩⟩⟩
    · cases a with
      | num k =>
        by_cases hk : k = 0
        · exfalso; rw [h18] at q; exact q (if_pos hk)
        · cases b with
          | var s => show (if k = 0 then some s else none) = none; rw [if_neg hk]
          | _ => rfl
      | _ => rfl
    · cases b with
      | var s =>
        have ha : ∃ k, a = .num k ∧ k = 0 := by
          cases a with
          | num k =>
            have hk0 : 0 ≤ k ∧ k ≤ 4 := hw.1
            refine ⟨k, rfl, ?_⟩
            rw [h18] at q
            have q' : (if k = 0 then (11 : Int) else 6 + k) = 11 := q
            by_cases hk : k = 0
            · exact hk
            · rw [if_neg hk] at q'; omega
          | var s => rw [h18] at q; exact absurd q (show ¬ (0 : Int) = 11 by decide)
          | add a b => rw [h18] at q; exact absurd q (show ¬ (1 : Int) = 11 by decide)
          | sub a b => rw [h18] at q; exact absurd q (show ¬ (2 : Int) = 11 by decide)
          | neg a => rw [h18] at q; exact absurd q (show ¬ (1 : Int) = 11 by decide)
          | mulL k a => rw [h18] at q; exfalso; revert q; show ¬ (if 1 ≤ k then (4 : Int) else if k = 0 then 5 else 6) = 11; split <;> (try split) <;> decide
          | mulR a k => rw [h18] at q; exact absurd q (show ¬ (3 : Int) = 11 by decide)
        obtain ⟨k, rfl, hk⟩ := ha
        obtain ⟨m1, m2, m3, m4, m5, m6, m7, m8⟩ := n5
        exact kS s (B 23 (B 19 (B 34 0))) (show (if k = 0 then some s else none) = some s by rw [if_pos hk]) m4 (by omega) m6
      | num k => exfalso; rw [h19] at q2; have hk0 : 0 ≤ k ∧ k ≤ 4 := hw.2; revert q2; show ¬ (if k = 0 then (11 : Int) else 6 + k) = 0; split <;> omega
      | add a b => rw [h19] at q2; exact absurd q2 (show ¬ (1 : Int) = 0 by decide)
      | sub a b => rw [h19] at q2; exact absurd q2 (show ¬ (2 : Int) = 0 by decide)
      | neg a => rw [h19] at q2; exact absurd q2 (show ¬ (1 : Int) = 0 by decide)
      | mulL k a => rw [h19] at q2; exfalso; revert q2; show ¬ (if 1 ≤ k then (4 : Int) else if k = 0 then 5 else 6) = 0; split <;> (try split) <;> decide
      | mulR a k => rw [h19] at q2; exact absurd q2 (show ¬ (3 : Int) = 0 by decide)
    · cases a with
      | num k => cases b with
        | var s => exact absurd h19 q2
        | _ => rfl
      | _ => rfl
theorem R_span (hm : m + 100 < 1000000000) {p t inn : Int} (hp : R32 p) (ht : R32 t) (hi : R32 inn) (hO : OI B)
    (k1 : ¬ ((0 ≤ p ∧ p ≤ 7) ∧ (0 ≤ t ∧ t ≤ 3) ∧ 0 ≤ inn ∧ inn ≤ 1) → Q (.inl (some (iv 0))) (u2 B 0 0 1))
    (k2 : ((0 ≤ p ∧ p ≤ 7) ∧ (0 ≤ t ∧ t ≤ 3) ∧ 0 ≤ inn ∧ inn ≤ 1) → B 6 p = 0 → Q (.inl (some (iv 0))) (u2 B 0 0 2))
    (k3 : ((0 ≤ p ∧ p ≤ 7) ∧ (0 ≤ t ∧ t ≤ 3) ∧ 0 ≤ inn ∧ inn ≤ 1) → ¬ B 6 p = 0 → alB B p = none → ∀ B', OI B' → B' 0 0 = 3 → FrS Pb B B' → Q (.inl (some (iv 0))) B')
    (k4 : ((0 ≤ p ∧ p ≤ 7) ∧ (0 ≤ t ∧ t ≤ 3) ∧ 0 ≤ inn ∧ inn ≤ 1) → ¬ B 6 p = 0 → ∀ s, alB B p = some s → ∀ B', OI B' → B' 0 0 = 0 → FrS Pb B B' → Q (.inl (some (iv (spn s inn (B 9 t) (txB B t) 1001 0)))) B') : qZ m h0 (d + 10) k_span 0 [some (.ref m), some (iv p), some (iv t), some (iv inn), none, none] [] B Q := by
  have hO0 := hO
  obtain ⟨g1, g2, g3, g4, g5, g6, g7, g8, g9, g10, g11, g12, g13, g14⟩ := hO
  have ref : ¬ ((0 ≤ p ∧ p ≤ 7) ∧ (0 ≤ t ∧ t ≤ 3) ∧ 0 ≤ inn ∧ inn ≤ 1) → r_span_28 m h0 (d + 9) B Q := by
    intro q
    unfold r_span_28
    refine qZ.mono (d := d + 1) (R_refuse hm ⟨_, rfl, ?_⟩) (by omega) (fun _ _ q => q)
    unfold r_span_33
    exact k1 q
  refine r_span_0_ok hm ?_
  unfold r_span_0
  refine qZ.mono (d := d + 1) (R_in2 hm hp ⟨by decide, by decide⟩ ⟨by decide, by decide⟩ (fun q1 q2 => ⟨_, rfl, ?_⟩) (fun q => ⟨_, rfl, ?_⟩)) (by omega) (fun _ _ q => q)
  · unfold r_span_7
    refine ⟨⟨by decide, by decide⟩, fun q => absurd q (by decide), fun _ => ?_⟩
    refine qZ.mono (d := d + 1) (R_in2 hm ht ⟨by decide, by decide⟩ ⟨by decide, by decide⟩ (fun q3 q4 => ⟨_, rfl, ?_⟩) (fun q => ⟨_, rfl, ?_⟩)) (by omega) (fun _ _ q => q)
    · unfold r_span_16
      refine ⟨⟨by decide, by decide⟩, fun q => absurd q (by decide), fun _ => ?_⟩
      refine qZ.mono (d := d + 1) (R_in2 hm hi ⟨by decide, by decide⟩ ⟨by decide, by decide⟩ (fun q5 q6 => ⟨_, rfl, ?_⟩) (fun q => ⟨_, rfl, ?_⟩)) (by omega) (fun _ _ q => q)
      · have hr : ((0 ≤ p ∧ p ≤ 7) ∧ (0 ≤ t ∧ t ≤ 3) ∧ 0 ≤ inn ∧ inn ≤ 1) := ⟨⟨q1, q2⟩, ⟨q3, q4⟩, q5, q6⟩
        have hpp := g4 p q1 (by omega)
        have hn := g6 t q3 (by omega)
        unfold r_span_25
        refine ⟨⟨by decide, by decide⟩, fun _ => ⟨q1, by omega, ⟨by omega, by omega⟩, fun h6 => ?_, fun h6 => ?_⟩, fun q => absurd q (by decide)⟩
        · have hPT := hpp.2.2 (by omega)
          refine r_alone_0_ok hm ?_
          unfold r_alone_0
          refine R_again hm (e := tre B p) (gr := B 8 p) q1 (by omega) (by omega) hpp.2.1 g3 g9 hPT.1 (fun B1 e1 e2 e3 e4 e5 e6 e7 e8 e9 e10 e11 fr => ⟨rfl, ?_⟩)
          have pb : ∀ b y, Pb b y ∨ (b = 31 ∧ y < 0) ∨ b = 59 ∨ b = 51 → B1 b y = B b y := fun b y q => fr b y (by unfold Pb at q; unfold Kq; omega)
          have none' : alB B p = none → r_span_54 m h0 (d + 9) t inn (-1) B1 Q := by
            intro hal
            unfold r_span_54
            refine ⟨⟨by decide, by decide⟩, fun q => absurd q (by decide), fun _ => ?_⟩
            refine qZ.mono (d := d + 1) (R_refuse hm ⟨_, rfl, ?_⟩) (by omega) (fun _ _ q => q)
            unfold r_span_66
            refine k3 hr h6 hal _ (OI_fr hO0 (fun b y q => ?_) (fun q q0 q1 => by rw [u2_bank (by decide), pb 51 q (by omega)]; exact g10 q q0 q1)) u2_same (fun b y q => by rw [u2_bank (by unfold Pb at q; omega)]; exact pb b y (Or.inl q))
            rw [u2_bank (by unfold OS Pb at q; omega)]
            exact pb b y (by unfold OS Pb at q; unfold Pb; omega)
          have some' : ∀ s v, alB B p = some s → 0 ≤ v → v < 256 → (∀ c, 0 ≤ c → c < 256 → hasB B1 v c = s.testBit c.toNat) → r_span_54 m h0 (d + 9) t inn v B1 Q := by
            intro s v hal v0 v1 hs
            unfold r_span_54
            refine ⟨⟨by omega, by omega⟩, fun _ => ?_, fun q => by omega⟩
            have c : ∀ b y, b ≠ 0 → (u2 B1 0 0 0) b y = B1 b y := fun b y q => u2_bank q
            have c00 : (u2 B1 0 0 0) 0 0 = 0 := u2_same
            generalize u2 B1 0 0 0 = B2 at *
            have hO2 : OI B2 := OI_fr hO0 (fun b y q => by rw [c b y (by unfold OS Pb at q; omega)]; exact pb b y (by unfold OS Pb at q; unfold Pb; omega)) (fun q q0 q1 => by rw [c 51 q (by decide), pb 51 q (by omega)]; exact g10 q q0 q1)
            have k4' := k4 hr h6 s hal B2 hO2 c00 (fun b y q => by rw [c b y (by unfold Pb at q; omega)]; exact pb b y (Or.inl q))
            have b9 : B2 9 t = B 9 t := by rw [c 9 t (by decide)]; exact pb 9 t (by unfold Pb; omega)
            have b5 : ∀ y, B2 5 y = B 5 y := fun y => by rw [c 5 y (by decide)]; exact pb 5 y (by unfold Pb; omega)
            have L : ∀ (N : Nat) (x : Int), 0 ≤ x → B 9 t - x < N → x ≤ 1000 → spn s inn (B 9 t) (txB B t) N x = spn s inn (B 9 t) (txB B t) 1001 0 → qZ m h0 (d + 10) k_span 75 [some (.ref m), none, some (iv t), some (iv inn), some (iv v), some (iv x)] [] B2 Q := by
              intro N
              induction N with
              | zero =>
                intro x x0 hN hx e
                refine r_span_75_ok hm ?_
                unfold r_span_75
                rw [b9]
                refine ⟨q3, by omega, ⟨by omega, by omega⟩, ⟨by omega, by omega⟩, fun _ => ?_, fun q => by omega⟩
                rw [← e] at k4'
                exact k4'
              | succ N ih =>
                intro x x0 hN hx e
                have hu : spn s inn (B 9 t) (txB B t) (N + 1) x = if x < B 9 t ∧ bi (s.testBit (txB B t x).toNat) = (if inn = 1 then 1 else 0) then spn s inn (B 9 t) (txB B t) N (x + 1) else x := rfl
                rw [hu] at e
                refine r_span_75_ok hm ?_
                unfold r_span_75
                rw [b9]
                refine ⟨q3, by omega, ⟨by omega, by omega⟩, ⟨by omega, by omega⟩, fun hge => ?_, fun hlt => ⟨by omega, by omega, ?_⟩⟩
                · rw [if_neg (by omega)] at e
                  rw [← e] at k4'
                  exact k4'
                · have hb := g5 (1000 * t + x) (by omega) (by omega)
                  rw [b5]
                  refine qZ.mono (d := d + 1) (R_has hm v0 v1 hb.1 hb.2 ⟨_, rfl, ?_⟩) (by omega) (fun _ _ q => q)
                  have hh : hasB B2 v (B 5 (1000 * t + x)) = s.testBit (B 5 (1000 * t + x)).toNat := by
                    rw [← hs _ hb.1 hb.2]
                    unfold hasB
                    rw [c 27 _ (by decide)]
                  rw [hh]
                  unfold r_span_105
                  have fin : ∀ z, z = (if inn = 1 then (1 : Int) else 0) → r_span_115 m h0 (d + 9) t inn v x (bi (s.testBit (B 5 (1000 * t + x)).toNat)) z B2 Q := by
                    intro z hz
                    unfold r_span_115
                    refine ⟨bi_R _, by rw [hz]; split <;> exact ⟨by decide, by decide⟩, fun hne => ?_, fun heq => ?_⟩
                    · rw [if_neg (fun w => hne (w.2.trans hz.symm))] at e
                      rw [← e] at k4'
                      exact k4'
                    · rw [if_pos ⟨hlt, heq.trans hz⟩] at e
                      exact ih (x + 1) (by omega) (by omega) (by omega) e
                  exact ⟨hi, fun z => fin 0 (by rw [if_neg z]), fun z => fin 1 (by rw [if_pos z])⟩
            exact L 1001 0 (Int.le_refl _) (by omega) (by omega) rfl
          -- the node
          have node : (1 < B 6 p ∧ (B 4 (200 * p) = 91 ∨ B 4 (200 * p) = 46 ∨ (B 4 (200 * p) = 92 ∧ isKl (B 4 (200 * p + 1)) = true))) → r_alone_78 m h0 (d + 8) B1 (fun o B' => ∃ v : Int, o = .inl (some (iv v)) ∧ r_span_54 m h0 (d + 9) t inn v B' Q) := by
            intro hc
            refine alone_78 hm e2 e3 e9 e11 (fun hz => ⟨_, rfl, none' (by unfold alB; rw [if_pos hc]; exact hz)⟩) (fun s v hz v0 v1 hs => ⟨_, rfl, some' s v (by unfold alB; rw [if_pos hc]; exact hz) v0 v1 hs⟩)
          have no : ¬ (1 < B 6 p ∧ (B 4 (200 * p) = 91 ∨ B 4 (200 * p) = 46 ∨ (B 4 (200 * p) = 92 ∧ isKl (B 4 (200 * p + 1)) = true))) → ∃ v : Int, (Sum.inl (some (iv (-1))) : qO) = .inl (some (iv v)) ∧ r_span_54 m h0 (d + 9) t inn v B1 Q := fun hc => ⟨-1, rfl, none' (by unfold alB; rw [if_neg hc])⟩
          have c6 : B1 6 p = B 6 p := pb 6 p (by unfold Pb; omega)
          have c4 : ∀ y, B1 4 y = B 4 y := fun y => pb 4 y (by unfold Pb; omega)
          unfold r_alone_5
          rw [c6, c4]
          refine ⟨q1, by omega, ⟨by omega, by omega⟩, fun hle => ?_, fun hgt => ⟨by omega, by omega, ?_⟩⟩
          · unfold r_alone_29 r_alone_58 r_alone_59
            exact ⟨⟨by decide, by decide⟩, fun _ => ⟨⟨by decide, by decide⟩, fun q => absurd q (by decide), fun _ => ⟨fun q => absurd q (by decide), fun _ => ⟨⟨by decide, by decide⟩, fun q => absurd rfl q, fun _ => no (fun w => by omega)⟩⟩⟩, fun q => absurd q (by decide)⟩
          · have hb := g3 (200 * p) (by omega) (by omega)
            unfold r_alone_29
            refine ⟨⟨by omega, by omega⟩, fun n92 => ?_, fun e92 => ⟨by omega, by omega, ?_⟩⟩
            · unfold r_alone_58 r_alone_59
              refine ⟨⟨by omega, by omega⟩, fun z => node ⟨by omega, Or.inl z⟩, fun z => ⟨fun z2 => node ⟨by omega, Or.inr (Or.inl z2)⟩, fun z2 => ⟨⟨by decide, by decide⟩, fun q => absurd rfl q, fun _ => no (fun w => ?_)⟩⟩⟩
              rcases w.2 with w | w | w
              · exact z w
              · exact z2 w
              · exact n92 w.1
            · rw [c4]
              have hb2 := g3 (200 * p + 1) (by omega) (by omega)
              refine qZ.mono (d := d + 1) (R_isKl hm ⟨by omega, by omega⟩ ⟨_, rfl, ?_⟩) (by omega) (fun _ _ q => q)
              unfold r_alone_51
              refine ⟨bi_R _, fun z => ?_, fun z => ?_⟩
              · unfold r_alone_58 r_alone_59
                have hkl : isKl (B 4 (200 * p + 1)) = false := by
                  cases hk : isKl (B 4 (200 * p + 1)) with
                  | true => rw [hk] at z; exact absurd z (by decide)
                  | false => rfl
                refine ⟨⟨by omega, by omega⟩, fun z1 => by omega, fun _ => ⟨fun z2 => by omega, fun _ => ⟨⟨by decide, by decide⟩, fun q => absurd rfl q, fun _ => no (fun w => ?_)⟩⟩⟩
                rcases w.2 with w | w | w
                · omega
                · omega
                · rw [hkl] at w; exact absurd w.2 (by decide)
              · unfold r_alone_59
                have hkl : isKl (B 4 (200 * p + 1)) = true := by
                  cases hk : isKl (B 4 (200 * p + 1)) with
                  | true => rfl
                  | false => rw [hk] at z; exact absurd rfl z
                have nn := node ⟨by omega, Or.inr (Or.inr ⟨e92, hkl⟩)⟩
                exact ⟨⟨by omega, by omega⟩, fun _ => nn, fun _ => ⟨fun _ => nn, fun _ => ⟨⟨by decide, by decide⟩, fun _ => nn, fun q => absurd q (by decide)⟩⟩⟩
        · refine qZ.mono (d := d + 1) (R_refuse hm ⟨_, rfl, ?_⟩) (by omega) (fun _ _ q => q)
          unfold r_span_48
          exact k2 hr h6
      · unfold r_span_25
        exact ⟨⟨by decide, by decide⟩, fun w => absurd rfl w, fun _ => ref (fun w => q w.2.2)⟩
    · unfold r_span_16
      exact ⟨⟨by decide, by decide⟩, fun _ => ref (fun w => q w.2.1), fun w => absurd rfl w⟩
  · unfold r_span_7
    exact ⟨⟨by decide, by decide⟩, fun _ => ref (fun w => q w.1), fun w => absurd rfl w⟩
end RSPAN
