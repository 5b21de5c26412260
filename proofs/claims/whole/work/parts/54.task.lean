/-! THE REFERENCE'S TASKS: each taken off the heap -/
section RTASK
variable {m : Nat} {h0 : qH} {d : Nat} {B : qB} {Q : qO → qB → Prop} {t : Int}
/-- the compiler's loop -/
def CL (m : Nat) (h0 : qH) (d : Nat) (B : qB) (Q : qO → qB → Prop) : Prop := qZ m h0 (d + 3) k_compile 16 [some (.ref m), none, none, none, none, none, none] [] B Q
theorem CH_eq {B B' : qB} : ∀ (ctx : List Int), (∀ q ∈ ctx, B' 53 q = B 53 q) → CH B ctx → CH B' ctx := by
  intro ctx
  induction ctx with
  | nil => intro _ _; trivial
  | cons q r ih =>
    intro h hc
    obtain ⟨h1, h2, h3, h4⟩ := hc
    exact ⟨h1, h2, (h q (List.mem_cons_self ..)).trans h3, ih (fun y hy => h y (List.mem_cons_of_mem _ hy)) h4⟩
theorem CH_u2 {ctx : List Int} {j : Nat} {x z : Int} (h : CH B ctx) (hj : j ≠ 53) : CH (u2 B j x z) ctx := CH_eq ctx (fun _ _ => u2_bank (Ne.symm hj)) h
theorem C_node (hm : m + 100 < 1000000000) (h64 : B 64 0 = t + 1) (t0 : 0 ≤ t) (t1 : t < 6000) (h60 : B 60 t = 0) (k : qZ m h0 (d + 2) k_nodeOf 0 [some (.ref m), some (iv (B 61 t)), none, none] [] (u2 B 64 0 t) (fun o B' => o = .inl none ∧ CL m h0 d B' Q)) : CL m h0 d B Q := by
  refine r_compile_16_ok hm ?_
  unfold r_compile_16
  rw [h64, show t + 1 - 1 = t by omega, h60]
  refine ⟨⟨by omega, by omega⟩, fun q => by omega, fun _ => ⟨t0, t1, ⟨by decide, by decide⟩, ⟨fun q => absurd rfl q, fun _ => ?_⟩⟩⟩
  exact k.mono (Nat.le_refl _) (fun o B' h => ⟨h.1, by unfold r_compile_83 r_compile_427; exact h.2⟩)
theorem C_other (hm : m + 100 < 1000000000) (h64 : B 64 0 = t + 1) (t0 : 0 ≤ t) (t1 : t < 6000) (h60 : B 60 t = 1) (c0 : 0 ≤ B 46 0) (c1 : B 46 0 < 6000) (a0 : 0 ≤ B 61 t) (a1 : B 61 t < 6000) (t2 : t < 5990) (k : CL m h0 d (ltB (ltB (u2 (em0 (u2 B 64 0 t) 2 0 0) 44 (B 61 t) (B 46 0 + 1)) 2 (B 46 0) 0 0) 0 (B 62 t) 0 0) Q) : CL m h0 d B Q := by
  refine r_compile_16_ok hm ?_
  unfold r_compile_16
  rw [h64, show t + 1 - 1 = t by omega, h60]
  refine ⟨⟨by omega, by omega⟩, fun q => by omega, fun _ => ⟨t0, t1, ⟨by decide, by decide⟩, ⟨fun _ => ⟨fun q => absurd rfl q, fun _ => ?_⟩, fun q => absurd q (by decide)⟩⟩⟩
  have e46 : (u2 B 64 0 t) 46 0 = B 46 0 := u2_bank (by decide)
  refine qZ.mono (d := d + 1) (R_emit0 hm (by rw [e46]; exact c0) (by rw [e46]; exact c1) (by decide) (by decide) (by decide) (by decide) ⟨_, rfl, ?_⟩) (by omega) (fun _ _ q => q)
  have f46 : (em0 (u2 B 64 0 t) 2 0 0) 46 0 = B 46 0 + 1 := by unfold em0; rw [u2_same, e46]
  have f64 : (u2 (em0 (u2 B 64 0 t) 2 0 0) 44 (B 61 t) (B 46 0 + 1)) 64 0 = t := by rw [u2_bank (by decide)]; unfold em0; rw [u2_bank (by decide), u2_bank (by decide), u2_bank (by decide), u2_bank (by decide), u2_bank (by decide), u2_same]
  unfold r_compile_98
  rw [f46, e46]
  refine ⟨a0, a1, ?_⟩
  refine qZ.mono (d := d + 1) (R_later hm (by rw [f64]; exact t0) (by rw [f64]; exact t1) ⟨rfl, ?_⟩) (by omega) (fun _ _ q => q)
  have g64 : (ltB (u2 (em0 (u2 B 64 0 t) 2 0 0) 44 (B 61 t) (B 46 0 + 1)) 2 (B 46 0) 0 0) 64 0 = t + 1 := by unfold ltB; rw [u2_same, f64]
  unfold r_compile_119
  refine qZ.mono (d := d + 1) (R_later hm (by rw [g64]; omega) (by rw [g64]; omega) ⟨rfl, ?_⟩) (by omega) (fun _ _ q => q)
  unfold r_compile_127 r_compile_427
  exact k
theorem C_jump (hm : m + 100 < 1000000000) (h64 : B 64 0 = t + 1) (t0 : 0 ≤ t) (t1 : t < 6000) (h60 : B 60 t = 2) (a0 : 0 ≤ B 61 t) (a1 : B 61 t < 6000) (k : CL m h0 d (u2 (u2 B 64 0 t) 43 (B 61 t) (B 46 0)) Q) : CL m h0 d B Q := by
  refine r_compile_16_ok hm ?_
  unfold r_compile_16
  rw [h64, show t + 1 - 1 = t by omega, h60]
  refine ⟨⟨by omega, by omega⟩, fun q => by omega, fun _ => ⟨t0, t1, ⟨by decide, by decide⟩, ⟨fun _ => ⟨fun _ => ⟨fun q => absurd rfl q, fun _ => ?_⟩, fun q => absurd q (by decide)⟩, fun q => absurd q (by decide)⟩⟩⟩
  unfold r_compile_427
  exact ⟨a0, a1, k⟩
theorem C_save (hm : m + 100 < 1000000000) (h64 : B 64 0 = t + 1) (t0 : 0 ≤ t) (t1 : t < 6000) (h60 : B 60 t = 3) (c0 : 0 ≤ B 46 0) (c1 : B 46 0 < 6000) (k : CL m h0 d (em0 (u2 B 64 0 t) 3 (B 61 t) 0) Q) : CL m h0 d B Q := by
  refine r_compile_16_ok hm ?_
  unfold r_compile_16
  rw [h64, show t + 1 - 1 = t by omega, h60]
  refine ⟨⟨by omega, by omega⟩, fun q => by omega, fun _ => ⟨t0, t1, ⟨by decide, by decide⟩, ⟨fun _ => ⟨fun _ => ⟨fun _ => ⟨fun q => absurd rfl q, fun _ => ?_⟩, fun q => absurd q (by decide)⟩, fun q => absurd q (by decide)⟩, fun q => absurd q (by decide)⟩⟩⟩
  have e46 : (u2 B 64 0 t) 46 0 = B 46 0 := u2_bank (by decide)
  refine qZ.mono (d := d + 1) (R_emit0 hm (by rw [e46]; exact c0) (by rw [e46]; exact c1) (by decide) (by decide) (by decide) (by decide) ⟨_, rfl, ?_⟩) (by omega) (fun _ _ q => q)
  unfold r_compile_160 r_compile_427
  exact k
theorem C_subend (hm : m + 100 < 1000000000) (h64 : B 64 0 = t + 1) (t0 : 0 ≤ t) (t1 : t < 6000) (h60 : B 60 t = 4) (c0 : 0 ≤ B 46 0) (c1 : B 46 0 < 6000) (a0 : 0 ≤ B 61 t) (a1 : B 61 t < 6000) (k : CL m h0 d (u2 (u2 (em0 (u2 B 64 0 t) 11 0 0) 55 0 (B 62 t)) 44 (B 61 t) (B 46 0 + 1)) Q) : CL m h0 d B Q := by
  refine r_compile_16_ok hm ?_
  unfold r_compile_16
  rw [h64, show t + 1 - 1 = t by omega, h60]
  refine ⟨⟨by omega, by omega⟩, fun q => by omega, fun _ => ⟨t0, t1, ⟨by decide, by decide⟩, ⟨fun _ => ⟨fun _ => ⟨fun _ => ⟨fun _ => ⟨fun q => absurd rfl q, fun _ => ?_⟩, fun q => absurd q (by decide)⟩, fun q => absurd q (by decide)⟩, fun q => absurd q (by decide)⟩, fun q => absurd q (by decide)⟩⟩⟩
  have e46 : (u2 B 64 0 t) 46 0 = B 46 0 := u2_bank (by decide)
  refine qZ.mono (d := d + 1) (R_emit0 hm (by rw [e46]; exact c0) (by rw [e46]; exact c1) (by decide) (by decide) (by decide) (by decide) ⟨_, rfl, ?_⟩) (by omega) (fun _ _ q => q)
  have f46 : (em0 (u2 B 64 0 t) 11 0 0) 46 0 = B 46 0 + 1 := by unfold em0; rw [u2_same, e46]
  unfold r_compile_177 r_compile_427
  rw [f46]
  exact ⟨a0, a1, k⟩
theorem C_split (hm : m + 100 < 1000000000) (h64 : B 64 0 = t + 1) (t0 : 0 ≤ t) (t1 : t < 6000) (h60 : B 60 t = 9) (c0 : 0 ≤ B 46 0) (c1 : B 46 0 < 6000) {ctx : List Int} (s1 : 0 ≤ B 48 0) (s2 : B 48 0 < 2000) (h55 : B 55 0 = ctxH ctx) (hch : CH B ctx) (k : CL m h0 d (u2 (em1 (u2 B 64 0 t) 1 0 0 ctx.length) 46 0 (B 46 0 + 1)) Q) : CL m h0 d B Q := by
  refine r_compile_16_ok hm ?_
  unfold r_compile_16
  rw [h64, show t + 1 - 1 = t by omega, h60]
  refine ⟨⟨by omega, by omega⟩, fun q => by omega, fun _ => ⟨t0, t1, ⟨by decide, by decide⟩, ⟨fun _ => ⟨fun _ => ⟨fun _ => ⟨fun _ => ⟨fun _ => ⟨fun _ => ⟨fun _ => ⟨fun _ => ⟨fun _ => ?_, fun q => absurd q (by decide)⟩, fun q => absurd q (by decide)⟩, fun q => absurd q (by decide)⟩, fun q => absurd q (by decide)⟩, fun q => absurd q (by decide)⟩, fun q => absurd q (by decide)⟩, fun q => absurd q (by decide)⟩, fun q => absurd q (by decide)⟩, fun q => absurd q (by decide)⟩⟩⟩
  have e46 : (u2 B 64 0 t) 46 0 = B 46 0 := u2_bank (by decide)
  have e48 : (u2 B 64 0 t) 48 0 = B 48 0 := u2_bank (by decide)
  refine qZ.mono (d := d + 1) (R_emit1 hm (ctx := ctx) (by rw [e46]; exact c0) (by rw [e46]; exact c1) (Or.inl rfl) (by rw [e48]; exact s1) (by rw [e48]; exact s2) (by rw [u2_bank (by decide)]; exact h55) (CH_u2 hch (by decide)) ⟨_, rfl, ?_⟩) (by omega) (fun _ _ q => q)
  unfold r_compile_426 r_compile_427
  rw [e46]
  exact k
/-- a tree's code stays where nothing of it changes -/
theorem mul_in {i l c : Int} (h0 : 0 ≤ i) (h1 : i < l) (hc : 0 ≤ c) : 0 ≤ i * c ∧ i * c + c ≤ l * c := by
  refine ⟨Int.mul_nonneg h0 hc, ?_⟩
  have := Int.mul_le_mul_of_nonneg_right (show i + 1 ≤ l by omega) hc
  rw [Int.add_mul, Int.one_mul] at this
  exact this
theorem SpA_fr {B B' : qB} {S S' pc : Int} {ctx : List Int} (h45 : B' 45 pc = B 45 pc) (h52 : ∀ y, 0 ≤ y → y < S → B' 52 y = B 52 y) (h54 : ∀ y, 0 ≤ y → y ≤ S → B' 54 y = B 54 y) (hS : S ≤ S') (h : SpA B S pc ctx) : SpA B' S' pc ctx := by
  obtain ⟨a, b, c, e⟩ := h
  refine ⟨by rw [h45]; exact a, by rw [h45]; omega, by rw [h45, h52 _ a b]; exact c, ?_⟩
  rw [h45, h54 _ (by omega) (by omega), h54 _ a (by omega)]
  exact e
theorem Rp_fr {B B' : qB} {S K S' K' c q l h g a J : Int} {ctx : List Int} {P P' : Int → List Int → Int → Prop} (hc : 0 ≤ c) (hl : 0 ≤ l) (hh : h = -1 ∨ l ≤ h) (hcd : ∀ b y, 42 ≤ b → b ≤ 45 → a ≤ y → y < a + l * c + (if h < 0 then c + 4 else (h - l) * (c + 1)) → B' b y = B b y) (h52 : ∀ y, 0 ≤ y → y < S → B' 52 y = B 52 y) (h54 : ∀ y, 0 ≤ y → y ≤ S → B' 54 y = B 54 y) (h53 : ∀ y, 0 ≤ y → y < K → B' 53 y = B 53 y) (hS : S ≤ S') (hK : K ≤ K')
    (hP : ∀ x cx j, a ≤ x → x + c ≤ a + l * c + (if h < 0 then c + 4 else (h - l) * (c + 1)) → P x cx j → P' x cx j) (hr : Rp B S K P c q l h g a ctx J) : Rp B' S' K' P' c q l h g a ctx J := by
  have hlc : 0 ≤ l * c := Int.mul_nonneg hl hc
  obtain ⟨r1, r2⟩ := hr
  have hx0 : 0 ≤ (if h < 0 then c + 4 else (h - l) * (c + 1)) := by
    split
    · omega
    · exact Int.mul_nonneg (by omega) (by omega)
  refine ⟨fun i i0 i1 => ?_, ?_⟩
  · have := mul_in i0 i1 hc
    exact hP _ _ _ (by omega) (by omega) (r1 i i0 i1)
  · by_cases hn : h < 0
    · rw [if_pos hn] at r2 ⊢
      rw [if_pos hn] at hcd hP
      obtain ⟨q1, q2, q3, q4, q5, q6, q7, q8, q9, q10, q11, q12, q13, q14⟩ := r2
      have e43 : B' 43 (a + l * c + 1) = B 43 (a + l * c + 1) := hcd 43 _ (by decide) (by decide) (by omega) (by omega)
      refine ⟨(hcd 42 _ (by decide) (by decide) (by omega) (by omega)).trans q1, SpA_fr (hcd 45 _ (by decide) (by decide) (by omega) (by omega)) h52 h54 hS q2, (hcd 43 _ (by decide) (by decide) (by omega) (by omega)).trans q3, (hcd 44 _ (by decide) (by decide) (by omega) (by omega)).trans q4, (hcd 42 _ (by decide) (by decide) (by omega) (by omega)).trans q5, by rw [e43]; exact q6, by rw [e43]; omega, by rw [e43]; exact q8, by rw [e43, h53 _ q6 q7]; exact q9, ?_, (hcd 42 _ (by decide) (by decide) (by omega) (by omega)).trans q11, by rw [e43, hcd 43 _ (by decide) (by decide) (by omega) (by omega)]; exact q12, (hcd 42 _ (by decide) (by decide) (by omega) (by omega)).trans q13, (hcd 43 _ (by decide) (by decide) (by omega) (by omega)).trans q14⟩
      rw [e43]
      exact hP _ _ _ (by omega) (by omega) q10
    · rw [if_neg hn] at r2 ⊢
      rw [if_neg hn] at hcd hP
      intro j j0 j1
      have := mul_in j0 j1 (show 0 ≤ c + 1 by omega)
      obtain ⟨q1, q2, q3, q4, q5⟩ := r2 j j0 j1
      exact ⟨(hcd 42 _ (by decide) (by decide) (by omega) (by omega)).trans q1, SpA_fr (hcd 45 _ (by decide) (by decide) (by omega) (by omega)) h52 h54 hS q2, (hcd 43 _ (by decide) (by decide) (by omega) (by omega)).trans q3, (hcd 44 _ (by decide) (by decide) (by omega) (by omega)).trans q4, hP _ _ _ (by omega) (by omega) q5⟩
theorem Seg_fr {B B' : qB} {S K S' K' : Int} (h52 : ∀ y, 0 ≤ y → y < S → B' 52 y = B 52 y) (h54 : ∀ y, 0 ≤ y → y ≤ S → B' 54 y = B 54 y) (h53 : ∀ y, 0 ≤ y → y < K → B' 53 y = B 53 y) (h27 : ∀ y, B' 27 y = B 27 y) (hS : S ≤ S') (hK : K ≤ K') : ∀ (e : qT) (a : Int) (ctx : List Int) (J : Int), wf e → (∀ b y, 42 ≤ b → b ≤ 45 → a ≤ y → y < a + cl e → B' b y = B b y) → Seg B S K e a ctx J → Seg B' S' K' e a ctx J := by
  intro e
  induction e with
  | num k =>
    intro a ctx J _ hcd h
    rcases h with h | h
    · exact Or.inl h
    · by_cases hk : k = 0
      · exact Or.inl hk
      · exact Or.inr ((hcd 42 a (by decide) (by decide) (Int.le_refl _) (by unfold cl; rw [if_neg hk]; omega)).trans h)
  | var s =>
    intro a ctx J _ hcd h
    obtain ⟨q1, q2, q3, q4⟩ := h
    have h1 : a < a + cl (.var s) := by unfold cl; omega
    have e43 := hcd 43 a (by decide) (by decide) (Int.le_refl _) h1
    refine ⟨(hcd 42 a (by decide) (by decide) (Int.le_refl _) h1).trans q1, by rw [e43]; exact q2, by rw [e43]; exact q3, fun c c1 c2 => ?_⟩
    rw [e43, ← q4 c c1 c2]
    unfold hasB
    rw [h27]
  | add u v hu hv =>
    intro a ctx J hw hcd h
    have nu := cl_nn u hw.1
    have nv := cl_nn v hw.2
    have hc : cl (.add u v) = cl u + cl v := rfl
    exact ⟨hu a ctx J hw.1 (fun b y b1 b2 y1 y2 => hcd b y b1 b2 y1 (by omega)) h.1, hv _ ctx _ hw.2 (fun b y b1 b2 y1 y2 => hcd b y b1 b2 (by omega) (by omega)) h.2⟩
  | sub u v hu hv =>
    intro a ctx J hw hcd h
    have nu := cl_nn u hw.1
    have nv := cl_nn v hw.2
    have hc : cl (.sub u v) = cl u + cl v + 2 := rfl
    obtain ⟨q1, q2, q3, q4, q5, q6, q7, q8⟩ := h
    have st : ∀ b y, 42 ≤ b → b ≤ 45 → a ≤ y → y < a + cl u + cl v + 2 → B' b y = B b y := fun b y b1 b2 y1 y2 => hcd b y b1 b2 y1 (by omega)
    exact ⟨(st 42 _ (by decide) (by decide) (by omega) (by omega)).trans q1, (st 43 _ (by decide) (by decide) (by omega) (by omega)).trans q2, (st 44 _ (by decide) (by decide) (by omega) (by omega)).trans q3, SpA_fr (st 45 _ (by decide) (by decide) (by omega) (by omega)) h52 h54 hS q4, hu _ ctx _ hw.1 (fun b y b1 b2 y1 y2 => st b y b1 b2 (by omega) (by omega)) q5, (st 42 _ (by decide) (by decide) (by omega) (by omega)).trans q6, (st 43 _ (by decide) (by decide) (by omega) (by omega)).trans q7, hv _ ctx _ hw.2 (fun b y b1 b2 y1 y2 => st b y b1 b2 (by omega) (by omega)) q8⟩
  | neg u hu =>
    intro a ctx J hw hcd h
    exact hu a ctx J hw hcd h
  | mulL g u hu =>
    intro a ctx J hw hcd h
    have nu := cl_nn u hw.2.2
    have hc : cl (.mulL g u) = cl u + 2 := rfl
    have st : ∀ b y, 42 ≤ b → b ≤ 45 → a ≤ y → y < a + cl u + 2 → B' b y = B b y := fun b y b1 b2 y1 y2 => hcd b y b1 b2 y1 (by omega)
    have h' : (if 1 ≤ g then B 42 a = 3 ∧ B 43 a = 2 * g ∧ Seg B S K u (a + 1) ctx J ∧ B 42 (a + cl u + 1) = 3 ∧ B 43 (a + cl u + 1) = 2 * g + 1
      else B 42 a = 6 ∧ B 43 a = (if g = 0 then 1 else 2) ∧ B 44 a = a + cl u + 2 ∧ SpA B S a ctx ∧ Seg B S K u (a + 1) [] J ∧ B 42 (a + cl u + 1) = 11) := h
    show (if 1 ≤ g then B' 42 a = 3 ∧ B' 43 a = 2 * g ∧ Seg B' S' K' u (a + 1) ctx J ∧ B' 42 (a + cl u + 1) = 3 ∧ B' 43 (a + cl u + 1) = 2 * g + 1
      else B' 42 a = 6 ∧ B' 43 a = (if g = 0 then 1 else 2) ∧ B' 44 a = a + cl u + 2 ∧ SpA B' S' a ctx ∧ Seg B' S' K' u (a + 1) [] J ∧ B' 42 (a + cl u + 1) = 11)
    by_cases hg : 1 ≤ g
    · rw [if_pos hg] at h' ⊢
      obtain ⟨q1, q2, q3, q4, q5⟩ := h'
      exact ⟨(st 42 _ (by decide) (by decide) (by omega) (by omega)).trans q1, (st 43 _ (by decide) (by decide) (by omega) (by omega)).trans q2, hu _ ctx _ hw.2.2 (fun b y b1 b2 y1 y2 => st b y b1 b2 (by omega) (by omega)) q3, (st 42 _ (by decide) (by decide) (by omega) (by omega)).trans q4, (st 43 _ (by decide) (by decide) (by omega) (by omega)).trans q5⟩
    · rw [if_neg hg] at h' ⊢
      obtain ⟨q1, q2, q3, q4, q5, q6⟩ := h'
      exact ⟨(st 42 _ (by decide) (by decide) (by omega) (by omega)).trans q1, (st 43 _ (by decide) (by decide) (by omega) (by omega)).trans q2, (st 44 _ (by decide) (by decide) (by omega) (by omega)).trans q3, SpA_fr (st 45 _ (by decide) (by decide) (by omega) (by omega)) h52 h54 hS q4, hu _ [] _ hw.2.2 (fun b y b1 b2 y1 y2 => st b y b1 b2 (by omega) (by omega)) q5, (st 42 _ (by decide) (by decide) (by omega) (by omega)).trans q6⟩
  | mulR u k hu =>
    intro a ctx J hw hcd h
    obtain ⟨g1, g2, g3, g4, g5, g6, g7⟩ := hw
    obtain ⟨nu, -, -⟩ := cl_nn u g7
    have hlc := Int.mul_nonneg g1 nu
    have hx0 : 0 ≤ (if rh k < 0 then cl u + 4 else (rh k - rl k) * (cl u + 1)) := by
      split
      · omega
      · exact Int.mul_nonneg (by omega) (by omega)
    have hc : cl (.mulR u k) = rl k * cl u + (if rh k < 0 then cl u + 4 else (rh k - rl k) * (cl u + 1)) + (if rg k = 2 then 2 else 0) := rfl
    have h' : (if rg k = 2 then B 42 a = 6 ∧ B 43 a = 0 ∧ B 44 a = a + cl (.mulR u k) ∧ SpA B S a ctx ∧ Rp B S K (fun a c j => Seg B S K u a c j) (cl u) (cm u) (rl k) (rh k) 0 (a + 1) [] J ∧ B 42 (a + cl (.mulR u k) - 1) = 11
      else Rp B S K (fun a c j => Seg B S K u a c j) (cl u) (cm u) (rl k) (rh k) (rg k) a ctx J) := h
    show (if rg k = 2 then B' 42 a = 6 ∧ B' 43 a = 0 ∧ B' 44 a = a + cl (.mulR u k) ∧ SpA B' S' a ctx ∧ Rp B' S' K' (fun a c j => Seg B' S' K' u a c j) (cl u) (cm u) (rl k) (rh k) 0 (a + 1) [] J ∧ B' 42 (a + cl (.mulR u k) - 1) = 11
      else Rp B' S' K' (fun a c j => Seg B' S' K' u a c j) (cl u) (cm u) (rl k) (rh k) (rg k) a ctx J)
    by_cases hg : rg k = 2
    · rw [if_pos hg] at h' hc ⊢
      obtain ⟨q1, q2, q3, q4, q5, q6⟩ := h'
      refine ⟨(hcd 42 _ (by decide) (by decide) (by omega) (by omega)).trans q1, (hcd 43 _ (by decide) (by decide) (by omega) (by omega)).trans q2, (hcd 44 _ (by decide) (by decide) (by omega) (by omega)).trans q3, SpA_fr (hcd 45 _ (by decide) (by decide) (by omega) (by omega)) h52 h54 hS q4, ?_, (hcd 42 _ (by decide) (by decide) (by omega) (by omega)).trans q6⟩
      exact Rp_fr nu g1 g3 (fun b y b1 b2 y1 y2 => hcd b y b1 b2 (by omega) (by omega)) h52 h54 h53 hS hK (fun x cx j x1 x2 hs => hu x cx j g7 (fun b y b1 b2 y1 y2 => hcd b y b1 b2 (by omega) (by omega)) hs) q5
    · rw [if_neg hg] at h' hc ⊢
      exact Rp_fr nu g1 g3 (fun b y b1 b2 y1 y2 => hcd b y b1 b2 (by omega) (by omega)) h52 h54 h53 hS hK (fun x cx j x1 x2 hs => hu x cx j g7 (fun b y b1 b2 y1 y2 => hcd b y b1 b2 (by omega) (by omega)) hs) h'
end RTASK
