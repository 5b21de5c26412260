/-! THE REFERENCE'S SEARCH: one step -/
/-- which rounds around have moved: ctx from the innermost on; the first u of them have not -/
def Cn (f : Int → Int) (p : Int) (ctx : List Int) (u : Int) : Prop := ∃ A C : List Int, ctx = A ++ C ∧ (∀ q ∈ A, f q = p) ∧ (∀ q ∈ C, f q < p) ∧ u = A.length
theorem CH_mem {B : qB} : ∀ {ctx : List Int}, CH B ctx → ∀ q ∈ ctx, 0 ≤ q ∧ q < 800 := by
  intro ctx
  induction ctx with
  | nil => intro _ q hq; simp at hq
  | cons x r ih =>
    intro h q hq
    rcases List.mem_cons.mp hq with e | e
    · subst e; exact ⟨h.1, h.2.1⟩
    · exact ih h.2.2.2 q e
section ONE
variable {m : Nat} {h0 : qH} {d : Nat} {B : qB} {Q : qO → qB → Prop}
def MR (B : qB) : Prop := ∀ q, 0 ≤ q → q < 800 → -1 ≤ B 51 q ∧ B 51 q ≤ 1000
def CR (B : qB) : Prop := ∀ q, 0 ≤ q → q < 20 → -1 ≤ B 49 q ∧ B 49 q ≤ 1000
theorem R_wasHere (hm : m + 100 < 1000000000) {pc p u κ : Int} {ctx : List Int} (pc0 : 0 ≤ pc) (pc1 : pc < 6000) (z0 : 0 ≤ B 45 pc) (z1 : B 45 pc < 2000) (h52 : B 52 (B 45 pc) = ctxH ctx) (hCH : CH B ctx) (hC : Cn (B 51) p ctx u) (hp : R32 p) (hM : MR B) (hk : κ = (B 54 (B 45 pc) + u) * (B 57 0 + 1) + p) (k0 : 0 ≤ κ) (k1 : κ < 5120000) (kT : fbit B κ = true → Q (.inl (some (iv 1))) B) (kF : fbit B κ = false → Q (.inl (some (iv 0))) (wsB B κ)) : qZ m h0 (d + 1) k_wasHere 0 [some (.ref m), some (iv pc), some (iv p), none, none, none] [] B Q := by
  obtain ⟨A, C, e, hA, hC, hu⟩ := hC
  refine r_wasHere_0_ok hm ?_
  unfold r_wasHere_0
  refine ⟨pc0, pc1, z0, by omega, z1, ?_⟩
  rw [h52]
  have fin : r_wasHere_54 m h0 d p (B 54 (B 45 pc) + u) B Q := by
    unfold r_wasHere_54
    rw [← hk, n_shr k0 (by omega), n_and k0 (by omega)]
    refine ⟨by omega, by omega, fun q => ?_, fun q => ?_⟩
    · rw [lb_test (by omega) (by omega)] at q
      exact kF (Bool.eq_false_iff.mpr q)
    · rw [lb_test (by omega) (by omega)] at q
      exact kT q
  have L : ∀ (A' : List Int) (x : Int), CH B (A' ++ C) → (∀ q ∈ A', B 51 q = p) → x + A'.length = B 54 (B 45 pc) + u → qZ m h0 (d + 1) k_wasHere 23 [some (.ref m), none, some (iv p), none, some (iv x), some (iv (ctxH (A' ++ C)))] [] B Q := by
    intro A'
    induction A' with
    | nil =>
      intro x hch _ hx
      have hx' : x = B 54 (B 45 pc) + u := by simpa using hx
      refine r_wasHere_23_ok hm ?_
      unfold r_wasHere_23
      rw [List.nil_append]
      rw [List.nil_append] at hch
      cases hCc : C with
      | nil =>
        refine ⟨⟨by decide, by decide⟩, fun _ => hx' ▸ fin, fun q => absurd q (by decide)⟩
      | cons q r =>
        rw [hCc] at hch
        have h1 : 0 ≤ q := hch.1
        have h2 : q < 800 := hch.2.1
        have h3 := hM q h1 h2
        have h4 := hC q (by rw [hCc]; exact List.mem_cons_self ..)
        rw [show ctxH (q :: r) = q from rfl]
        refine ⟨⟨by omega, by omega⟩, fun q => by omega, fun _ => ⟨h1, h2, ⟨by omega, by omega⟩, hp, fun _ => hx' ▸ fin, fun q9 => by omega⟩⟩
    | cons q A' ih =>
      intro x hch hA' hx
      have h1 : 0 ≤ q := hch.1
      have h2 : q < 800 := hch.2.1
      have h3 := hM q h1 h2
      have h4 := hA' q (List.mem_cons_self ..)
      refine r_wasHere_23_ok hm ?_
      unfold r_wasHere_23
      rw [show ctxH (q :: A' ++ C) = q from rfl]
      refine ⟨⟨by omega, by omega⟩, fun q => by omega, fun _ => ⟨h1, h2, ⟨by omega, by omega⟩, hp, fun q => absurd h4 q, fun _ => ?_⟩⟩
      rw [show B 53 q = ctxH (A' ++ C) from hch.2.2.1]
      exact ih (x + 1) hch.2.2.2 (fun q' hq => hA' q' (List.mem_cons_of_mem _ hq)) (by rw [List.length_cons] at hx; omega)
  rw [e] at hCH ⊢
  exact L A _ hCH hA (by omega)
/-- a step that is neither split nor question -/
theorem R_one_nq (hm : m + 100 < 1000000000) {c : Int} (pc0 : 0 ≤ B 68 0) (pc1 : B 68 0 < 6000) (h42 : B 42 (B 68 0) = c) (hc : R32 c) (n1 : ¬ c = 1) (n6 : ¬ c = 6) (w : r_one_38 m h0 d c B Q) : qZ m h0 (d + 1) k_one 0 [some (.ref m), none, none] [] B Q := by
  refine r_one_0_ok hm ?_
  unfold r_one_0
  rw [h42]
  exact ⟨pc0, pc1, hc, fun q => absurd q n1, fun _ => ⟨fun _ => w, fun q => absurd q n6⟩⟩
theorem R_one0 (hm : m + 100 < 1000000000) (pc0 : 0 ≤ B 68 0) (pc1 : B 68 0 < 6000) (h42 : B 42 (B 68 0) = 0) (s0 : 0 ≤ B 43 (B 68 0)) (s1 : B 43 (B 68 0) < 256) (hT : TXT B) (p0 : 0 ≤ B 69 0) (p1 : B 69 0 ≤ B 57 0)
    (kT : B 69 0 < B 57 0 → hasB B (B 43 (B 68 0)) (tB B (B 69 0)) = true → Q (.inl (some (iv 0))) (u2 (u2 B 69 0 (B 69 0 + 1)) 68 0 (B 68 0 + 1)))
    (kF : ¬ (B 69 0 < B 57 0 ∧ hasB B (B 43 (B 68 0)) (tB B (B 69 0)) = true) → Q (.inl (some (iv 1))) B) : qZ m h0 (d + 2) k_one 0 [some (.ref m), none, none] [] B Q := by
  have hT' := hT
  obtain ⟨t1, t2, t3, t4, t5⟩ := hT
  refine R_one_nq hm pc0 pc1 h42 ⟨by decide, by decide⟩ (by decide) (by decide) ?_
  unfold r_one_38
  refine ⟨⟨by decide, by decide⟩, fun q => absurd rfl q, fun _ => ⟨⟨by omega, by omega⟩, ⟨by omega, by omega⟩, fun q => kF (fun h => by omega), fun q => ⟨pc0, pc1, ?_⟩⟩⟩
  refine R_byteAt hm (by omega) (by omega) ⟨_, rfl, ?_⟩
  unfold r_one_71
  have hb := tB_R hT' p0 (by omega)
  refine R_has hm s0 s1 hb.1 hb.2 ⟨_, rfl, ?_⟩
  unfold r_one_74
  refine ⟨bi_R _, fun z => ?_, fun z => ?_⟩
  · refine kT (by omega) ?_
    cases hh : hasB B (B 43 (B 68 0)) (tB B (B 69 0)) with
    | true => rfl
    | false => exact absurd (show bi (hasB B (B 43 (B 68 0)) (tB B (B 69 0))) = 0 by rw [hh]; rfl) z
  · refine kF (fun h => ?_)
    rw [show hasB B (B 43 (B 68 0)) (B 5 (B 58 0 + B 69 0)) = true from h.2] at z
    exact absurd z (by decide)
theorem R_one2 (hm : m + 100 < 1000000000) (pc0 : 0 ≤ B 68 0) (pc1 : B 68 0 < 6000) (h42 : B 42 (B 68 0) = 2) (k : Q (.inl (some (iv 0))) (u2 B 68 0 (B 43 (B 68 0)))) : qZ m h0 (d + 1) k_one 0 [some (.ref m), none, none] [] B Q := by
  refine R_one_nq hm pc0 pc1 h42 ⟨by decide, by decide⟩ (by decide) (by decide) ?_
  unfold r_one_38
  exact ⟨⟨by decide, by decide⟩, fun _ => ⟨fun _ => ⟨fun q => absurd rfl q, fun _ => ⟨pc0, pc1, k⟩⟩, fun q => absurd q (by decide)⟩, fun q => absurd q (by decide)⟩
theorem R_one3 (hm : m + 100 < 1000000000) (pc0 : 0 ≤ B 68 0) (pc1 : B 68 0 < 6000) (h42 : B 42 (B 68 0) = 3) (s0 : 0 ≤ B 43 (B 68 0)) (s1 : B 43 (B 68 0) < 20) (t0 : 0 ≤ B 66 0) (t1 : B 66 0 < 2500000) (k : Q (.inl (some (iv 0))) (u2 (u2 (psB B (bw (B 43 (B 68 0)) (B 49 (B 43 (B 68 0))))) 49 (B 43 (B 68 0)) (B 69 0)) 68 0 (B 68 0 + 1))) : qZ m h0 (d + 3) k_one 0 [some (.ref m), none, none] [] B Q := by
  refine R_one_nq hm pc0 pc1 h42 ⟨by decide, by decide⟩ (by decide) (by decide) ?_
  unfold r_one_38
  refine ⟨⟨by decide, by decide⟩, fun _ => ⟨fun _ => ⟨fun _ => ⟨fun q => absurd rfl q, fun _ => ⟨pc0, pc1, s0, s1, ?_⟩⟩, fun q => absurd q (by decide)⟩, fun q => absurd q (by decide)⟩, fun q => absurd q (by decide)⟩
  refine R_before hm t0 t1 ⟨rfl, ?_⟩
  unfold r_one_198
  have e68 : psB B (bw (B 43 (B 68 0)) (B 49 (B 43 (B 68 0)))) 68 0 = B 68 0 := psB_oth (by decide) (by decide)
  have e69 : psB B (bw (B 43 (B 68 0)) (B 49 (B 43 (B 68 0)))) 69 0 = B 69 0 := psB_oth (by decide) (by decide)
  have e43 : psB B (bw (B 43 (B 68 0)) (B 49 (B 43 (B 68 0)))) 43 (B 68 0) = B 43 (B 68 0) := psB_oth (by decide) (by decide)
  rw [e68, e69, e43]
  exact ⟨pc0, pc1, s0, s1, k⟩
theorem R_one4 (hm : m + 100 < 1000000000) (pc0 : 0 ≤ B 68 0) (pc1 : B 68 0 < 6000) (h42 : B 42 (B 68 0) = 4) (s0 : 0 ≤ B 43 (B 68 0)) (s1 : B 43 (B 68 0) < 800) (t0 : 0 ≤ B 66 0) (t1 : B 66 0 < 2500000) (k : Q (.inl (some (iv 0))) (u2 (u2 (psB B (bw (32 + B 43 (B 68 0)) (B 51 (B 43 (B 68 0))))) 51 (B 43 (B 68 0)) (B 69 0)) 68 0 (B 68 0 + 1))) : qZ m h0 (d + 3) k_one 0 [some (.ref m), none, none] [] B Q := by
  refine R_one_nq hm pc0 pc1 h42 ⟨by decide, by decide⟩ (by decide) (by decide) ?_
  unfold r_one_38
  refine ⟨⟨by decide, by decide⟩, fun _ => ⟨fun _ => ⟨fun _ => ⟨fun _ => ⟨fun q => absurd rfl q, fun _ => ⟨pc0, pc1, s0, s1, ?_⟩⟩, fun q => absurd q (by decide)⟩, fun q => absurd q (by decide)⟩, fun q => absurd q (by decide)⟩, fun q => absurd q (by decide)⟩
  refine R_before hm t0 t1 ⟨rfl, ?_⟩
  unfold r_one_264
  have e68 : psB B (bw (32 + B 43 (B 68 0)) (B 51 (B 43 (B 68 0)))) 68 0 = B 68 0 := psB_oth (by decide) (by decide)
  have e69 : psB B (bw (32 + B 43 (B 68 0)) (B 51 (B 43 (B 68 0)))) 69 0 = B 69 0 := psB_oth (by decide) (by decide)
  have e43 : psB B (bw (32 + B 43 (B 68 0)) (B 51 (B 43 (B 68 0)))) 43 (B 68 0) = B 43 (B 68 0) := psB_oth (by decide) (by decide)
  rw [e68, e69, e43]
  exact ⟨pc0, pc1, s0, s1, k⟩
theorem R_one5 (hm : m + 100 < 1000000000) (pc0 : 0 ≤ B 68 0) (pc1 : B 68 0 < 6000) (h42 : B 42 (B 68 0) = 5) (s0 : 0 ≤ B 43 (B 68 0)) (s1 : B 43 (B 68 0) < 800) (hM : MR B) (hp : R32 (B 69 0)) (t0 : 0 ≤ B 66 0) (t1 : B 66 0 < 2500000) (kF : B 51 (B 43 (B 68 0)) = B 69 0 → Q (.inl (some (iv 1))) B) (k : ¬ B 51 (B 43 (B 68 0)) = B 69 0 → Q (.inl (some (iv 0))) (u2 (u2 (psB B (bw (32 + B 43 (B 68 0)) (B 51 (B 43 (B 68 0))))) 51 (B 43 (B 68 0)) (-1)) 68 0 (B 68 0 + 1))) : qZ m h0 (d + 3) k_one 0 [some (.ref m), none, none] [] B Q := by
  refine R_one_nq hm pc0 pc1 h42 ⟨by decide, by decide⟩ (by decide) (by decide) ?_
  unfold r_one_38
  have h3 := hM _ s0 s1
  refine ⟨⟨by decide, by decide⟩, fun _ => ⟨fun _ => ⟨fun _ => ⟨fun _ => ⟨fun _ => ⟨fun q => absurd rfl q, fun _ => ⟨pc0, pc1, s0, s1, ⟨by omega, by omega⟩, hp, fun hne => ?_, fun he => kF he⟩⟩, fun q => absurd q (by decide)⟩, fun q => absurd q (by decide)⟩, fun q => absurd q (by decide)⟩, fun q => absurd q (by decide)⟩, fun q => absurd q (by decide)⟩
  refine R_before hm t0 t1 ⟨rfl, ?_⟩
  unfold r_one_353
  have e68 : psB B (bw (32 + B 43 (B 68 0)) (B 51 (B 43 (B 68 0)))) 68 0 = B 68 0 := psB_oth (by decide) (by decide)
  have e43 : psB B (bw (32 + B 43 (B 68 0)) (B 51 (B 43 (B 68 0)))) 43 (B 68 0) = B 43 (B 68 0) := psB_oth (by decide) (by decide)
  rw [e68, e43]
  exact ⟨pc0, pc1, s0, s1, k hne⟩
theorem R_one11 (hm : m + 100 < 1000000000) (pc0 : 0 ≤ B 68 0) (pc1 : B 68 0 < 6000) (h42 : B 42 (B 68 0) = 11) (k : Q (.inl (some (iv 2))) B) : qZ m h0 (d + 1) k_one 0 [some (.ref m), none, none] [] B Q := by
  refine R_one_nq hm pc0 pc1 h42 ⟨by decide, by decide⟩ (by decide) (by decide) ?_
  unfold r_one_38
  exact ⟨⟨by decide, by decide⟩, fun _ => ⟨fun _ => ⟨fun _ => ⟨fun _ => ⟨fun _ => ⟨fun _ => ⟨fun _ => ⟨fun q => absurd rfl q, fun _ => k⟩, fun q => absurd q (by decide)⟩, fun q => absurd q (by decide)⟩, fun q => absurd q (by decide)⟩, fun q => absurd q (by decide)⟩, fun q => absurd q (by decide)⟩, fun q => absurd q (by decide)⟩, fun q => absurd q (by decide)⟩
theorem R_one_470 {z : Int} {g : Bool} (hz : z = bi g) (kT : g = true → Q (.inl (some (iv 0))) (u2 B 68 0 (B 68 0 + 1))) (kF : g = false → Q (.inl (some (iv 1))) B) : r_one_470 m h0 d z B Q := by
  unfold r_one_470
  subst hz
  cases g with
  | true => exact ⟨bi_R _, fun _ => kT rfl, fun q => absurd q (by decide)⟩
  | false => exact ⟨bi_R _, fun q => absurd rfl q, fun _ => kF rfl⟩
/-- beginning, end, edge, no edge -/
theorem R_one7 (hm : m + 100 < 1000000000) {j : Int} (j1 : 1 ≤ j) (j4 : j ≤ 4) (pc0 : 0 ≤ B 68 0) (pc1 : B 68 0 < 6000) (h42 : B 42 (B 68 0) = 6 + j) (hT : TXT B) (p0 : 0 ≤ B 69 0) (p1 : B 69 0 ≤ B 57 0) (kT : good (B 57 0) (tB B) j (B 69 0) = true → Q (.inl (some (iv 0))) (u2 B 68 0 (B 68 0 + 1))) (kF : good (B 57 0) (tB B) j (B 69 0) = false → Q (.inl (some (iv 1))) B) : qZ m h0 (d + 4) k_one 0 [some (.ref m), none, none] [] B Q := by
  have hT' := hT
  obtain ⟨t1, t2, t3, t4, t5⟩ := hT
  refine R_one_nq hm pc0 pc1 h42 ⟨by omega, by omega⟩ (by omega) (by omega) ?_
  unfold r_one_38
  have hp : R32 (B 69 0) := ⟨by omega, by omega⟩
  have hn : R32 (B 57 0) := ⟨by omega, by omega⟩
  unfold good at kT kF
  refine ⟨⟨by omega, by omega⟩, fun _ => ⟨fun _ => ⟨fun _ => ⟨fun _ => ⟨fun _ => ⟨fun _ => ⟨fun _ => ⟨fun _ => ⟨fun q7 => ⟨fun q8 => ?_, fun q8 => ?_⟩, fun q7 => ?_⟩, fun q => by omega⟩, fun q => by omega⟩, fun q => by omega⟩, fun q => by omega⟩, fun q => by omega⟩, fun q => by omega⟩, fun q => by omega⟩, fun q => by omega⟩
  · rw [if_neg (by omega), if_neg (by omega)] at kT kF
    refine R_isEdge hm hT' p0 p1 ⟨_, rfl, ?_⟩
    unfold r_one_451
    refine ⟨⟨by omega, by omega⟩, fun q9 => ?_, fun q9 => ?_⟩
    · rw [if_neg (by omega)] at kT kF
      unfold r_one_462
      refine ⟨bi_R _, ⟨by decide, by decide⟩, fun z => ?_, fun z => ?_⟩
      · refine R_one_470 (g := !edg (B 57 0) (tB B) (B 69 0)) ?_ kT kF
        cases hh : edg (B 57 0) (tB B) (B 69 0) with
        | true => rfl
        | false => rw [hh] at z; exact absurd rfl z
      · refine R_one_470 (g := !edg (B 57 0) (tB B) (B 69 0)) ?_ kT kF
        cases hh : edg (B 57 0) (tB B) (B 69 0) with
        | true => rw [hh] at z; exact absurd z (by decide)
        | false => rfl
    · rw [if_pos (by omega)] at kT kF
      unfold r_one_462
      refine ⟨bi_R _, ⟨by decide, by decide⟩, fun z => ?_, fun z => ?_⟩
      · refine R_one_470 (g := edg (B 57 0) (tB B) (B 69 0)) ?_ kT kF
        cases hh : edg (B 57 0) (tB B) (B 69 0) with
        | true => rw [hh] at z; exact absurd rfl z
        | false => rfl
      · refine R_one_470 (g := edg (B 57 0) (tB B) (B 69 0)) ?_ kT kF
        cases hh : edg (B 57 0) (tB B) (B 69 0) with
        | true => rfl
        | false => rw [hh] at z; exact absurd z (by decide)
  · rw [if_neg (by omega), if_pos (by omega)] at kT kF
    refine ⟨hp, hn, fun z => R_one_470 (g := decide (B 69 0 = B 57 0)) ?_ kT kF, fun z => R_one_470 (g := decide (B 69 0 = B 57 0)) ?_ kT kF⟩
    · rw [decide_eq_false z]; rfl
    · rw [decide_eq_true z]; rfl
  · rw [if_pos (by omega)] at kT kF
    refine ⟨hp, fun z => R_one_470 (g := decide (B 69 0 = 0)) ?_ kT kF, fun z => R_one_470 (g := decide (B 69 0 = 0)) ?_ kT kF⟩
    · rw [decide_eq_false z]; rfl
    · rw [decide_eq_true z]; rfl
theorem R_one1 (hm : m + 100 < 1000000000) {u κ : Int} {ctx : List Int} (pc0 : 0 ≤ B 68 0) (pc1 : B 68 0 < 6000) (h42 : B 42 (B 68 0) = 1) (z0 : 0 ≤ B 45 (B 68 0)) (z1 : B 45 (B 68 0) < 2000) (h52 : B 52 (B 45 (B 68 0)) = ctxH ctx) (hCH : CH B ctx) (hC : Cn (B 51) (B 69 0) ctx u) (hp : R32 (B 69 0)) (hM : MR B) (hk : κ = (B 54 (B 45 (B 68 0)) + u) * (B 57 0 + 1) + B 69 0) (k0 : 0 ≤ κ) (k1 : κ < 5120000) (t0 : 0 ≤ B 66 0) (t1 : B 66 0 < 2500000) (kT : fbit B κ = true → Q (.inl (some (iv 1))) B) (kF : fbit B κ = false → Q (.inl (some (iv 0))) (u2 (psB (wsB B κ) (8192 * B 69 0 + B 44 (B 68 0))) 68 0 (B 43 (B 68 0)))) : qZ m h0 (d + 2) k_one 0 [some (.ref m), none, none] [] B Q := by
  refine r_one_0_ok hm ?_
  unfold r_one_0
  rw [h42]
  refine ⟨pc0, pc1, ⟨by decide, by decide⟩, fun _ => ?_, fun q => absurd rfl q⟩
  unfold r_one_21
  refine R_wasHere hm pc0 pc1 z0 z1 h52 hCH hC hp hM hk k0 k1 (fun h => ⟨_, rfl, ?_⟩) (fun h => ⟨_, rfl, ?_⟩)
  · unfold r_one_33
    exact ⟨⟨by decide, by decide⟩, fun q => absurd q (by decide), fun _ => kT h⟩
  · have ew : ∀ b y, b ≠ 67 → wsB B κ b y = B b y := fun b y hb => u2_bank hb
    unfold r_one_33
    refine ⟨⟨by decide, by decide⟩, fun _ => ?_, fun q => absurd rfl q⟩
    unfold r_one_38
    refine ⟨⟨by decide, by decide⟩, fun _ => ⟨fun q => absurd rfl q, fun _ => ?_⟩, fun q => absurd q (by decide)⟩
    rw [ew 68 0 (by decide), ew 69 0 (by decide), ew 44 _ (by decide)]
    refine ⟨pc0, pc1, R_push hm (by rw [ew 66 0 (by decide)]; exact t0) (by rw [ew 66 0 (by decide)]; exact t1) ⟨rfl, ?_⟩⟩
    unfold r_one_129
    rw [psB_oth (b := 68) (by decide) (by decide), psB_oth (b := 43) (by decide) (by decide), ew 68 0 (by decide), ew 43 _ (by decide)]
    exact ⟨pc0, pc1, kF h⟩
theorem R_one6 (hm : m + 100 < 1000000000) {u κ : Int} {ctx : List Int} (pc0 : 0 ≤ B 68 0) (pc1 : B 68 0 < 6000) (h42 : B 42 (B 68 0) = 6) (z0 : 0 ≤ B 45 (B 68 0)) (z1 : B 45 (B 68 0) < 2000) (h52 : B 52 (B 45 (B 68 0)) = ctxH ctx) (hCH : CH B ctx) (hC : Cn (B 51) (B 69 0) ctx u) (hp : R32 (B 69 0)) (hM : MR B) (hk : κ = (B 54 (B 45 (B 68 0)) + u) * (B 57 0 + 1) + B 69 0) (k0 : 0 ≤ κ) (k1 : κ < 5120000) (kT : fbit B κ = true → Q (.inl (some (iv 1))) B) (kF : fbit B κ = false → Q (.inl (some (iv 3))) (wsB B κ)) : qZ m h0 (d + 2) k_one 0 [some (.ref m), none, none] [] B Q := by
  refine r_one_0_ok hm ?_
  unfold r_one_0
  rw [h42]
  refine ⟨pc0, pc1, ⟨by decide, by decide⟩, fun q => absurd q (by decide), fun _ => ⟨fun q => absurd rfl q, fun _ => ?_⟩⟩
  unfold r_one_21
  refine R_wasHere hm pc0 pc1 z0 z1 h52 hCH hC hp hM hk k0 k1 (fun h => ⟨_, rfl, ?_⟩) (fun h => ⟨_, rfl, ?_⟩)
  · unfold r_one_33
    exact ⟨⟨by decide, by decide⟩, fun q => absurd q (by decide), fun _ => kT h⟩
  · unfold r_one_33
    refine ⟨⟨by decide, by decide⟩, fun _ => ?_, fun q => absurd rfl q⟩
    unfold r_one_38
    exact ⟨⟨by decide, by decide⟩, fun _ => ⟨fun _ => ⟨fun _ => ⟨fun _ => ⟨fun _ => ⟨fun _ => ⟨fun q => absurd rfl q, fun _ => kF h⟩, fun q => absurd q (by decide)⟩, fun q => absurd q (by decide)⟩, fun q => absurd q (by decide)⟩, fun q => absurd q (by decide)⟩, fun q => absurd q (by decide)⟩, fun q => absurd q (by decide)⟩
end ONE
