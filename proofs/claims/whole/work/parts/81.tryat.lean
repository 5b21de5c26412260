/-! THE REFERENCE'S SEARCH: from a place on -/
theorem pzq_w : ∀ e : qT, wf e → wR e ≤ 400 → sv e ≤ wR e ∧ sv e + pz e ≤ 2 * wR e ∧ pz e + pq e ≤ 2 * wR e := by
  intro e
  induction e with
  | num k => intro _ _; rw [sv, pz, pq, wR]; split <;> omega
  | var s => intro _ _; rw [sv, pz, pq, wR]; omega
  | add a b ha hb =>
    intro h hw
    have w1 := wR_bd a h.1
    have w2 := wR_bd b h.2
    rw [wR] at hw
    have := ha h.1 (by omega)
    have := hb h.2 (by omega)
    rw [sv, pz, pq, wR]
    omega
  | sub a b ha hb =>
    intro h hw
    have w1 := wR_bd a h.1
    have w2 := wR_bd b h.2
    rw [wR] at hw
    have := ha h.1 (by omega)
    have := hb h.2 (by omega)
    rw [sv, pz, pq, wR]
    omega
  | neg a ha =>
    intro h hw
    rw [wR] at hw
    have := ha h (by omega)
    rw [sv, pz, pq, wR]
    omega
  | mulL k a ha =>
    intro h hw
    rw [wR] at hw
    have := ha h.2.2 (by split at hw <;> omega)
    rw [sv, pz, pq, wR]
    split <;> omega
  | mulR a k ha =>
    intro h hw
    have h0 := h
    obtain ⟨g1, g2, g3, g4, g5, g6, g7⟩ := h
    have w1 := wR_bd a g7
    have hw' : (if wRep (wR a) k < 100000 then wRep (wR a) k else 100000) ≤ 400 := hw
    have hwr : wRep (wR a) k ≤ 400 := by split at hw' <;> omega
    have hwe : wR (.mulR a k) = wRep (wR a) k := by
      show (if wRep (wR a) k < 100000 then wRep (wR a) k else 100000) = _
      rw [if_pos (by omega)]
    rw [hwe, pz, pq, sv]
    unfold wRep at hwr ⊢
    unfold pzR
    have a1 := Int.mul_nonneg g1 w1.1
    by_cases hh : rh k < 0
    · simp only [if_pos hh] at hwr ⊢
      have hwa : wR a ≤ 400 := by split at hwr <;> omega
      obtain ⟨i1, i2, i3⟩ := ha g7 hwa
      have m1 : rl k * sv a ≤ rl k * wR a := Int.mul_le_mul_of_nonneg_left i1 g1
      have m2 : rl k * (sv a + pz a) ≤ rl k * (2 * wR a) := Int.mul_le_mul_of_nonneg_left i2 g1
      have m3 : rl k * (pz a + pq a) ≤ rl k * (2 * wR a) := Int.mul_le_mul_of_nonneg_left i3 g1
      rw [Int.mul_add, Int.mul_left_comm] at m2 m3
      by_cases hg : rg k = 2
      · simp only [if_pos hg] at hwr ⊢
        omega
      · simp only [if_neg hg] at hwr ⊢
        omega
    · simp only [if_neg hh] at hwr ⊢
      have r0 : 0 ≤ rh k - rl k := by omega
      have b0 : 0 ≤ (rh k - rl k) * (wR a + 1) := Int.mul_nonneg r0 (by omega)
      by_cases hz : rl k = 0 ∧ rh k = 0
      · rw [hz.1, hz.2]
        simp only [Int.zero_mul, Int.sub_zero, Int.zero_add]
        split <;> omega
      · have hwa : wR a ≤ 400 := by
          by_cases hl : rl k = 0
          · have : 1 ≤ rh k - rl k := by omega
            have := Int.mul_le_mul_of_nonneg_right this (show 0 ≤ wR a + 1 by omega)
            split at hwr <;> omega
          · have : 1 ≤ rl k := by omega
            have := Int.mul_le_mul_of_nonneg_right this w1.1
            split at hwr <;> omega
        obtain ⟨i1, i2, i3⟩ := ha g7 hwa
        have m1 : rl k * sv a ≤ rl k * wR a := Int.mul_le_mul_of_nonneg_left i1 g1
        have m2 : rl k * (sv a + pz a) ≤ rl k * (2 * wR a) := Int.mul_le_mul_of_nonneg_left i2 g1
        have m3 : rl k * (pz a + pq a) ≤ rl k * (2 * wR a) := Int.mul_le_mul_of_nonneg_left i3 g1
        rw [Int.mul_add, Int.mul_left_comm] at m2 m3
        have n1 : (rh k - rl k) * sv a ≤ (rh k - rl k) * wR a := Int.mul_le_mul_of_nonneg_left i1 r0
        have n2 : (rh k - rl k) * (sv a + pz a) ≤ (rh k - rl k) * (2 * wR a) := Int.mul_le_mul_of_nonneg_left i2 r0
        have n3 : (rh k - rl k) * (pz a + pq a) ≤ (rh k - rl k) * (2 * wR a) := Int.mul_le_mul_of_nonneg_left i3 r0
        rw [Int.mul_add, Int.mul_left_comm] at n2 n3
        have e1 : (rh k - rl k) * (wR a + 1) = (rh k - rl k) * wR a + (rh k - rl k) := by rw [Int.mul_add, Int.mul_one]
        have e2 : (rh k - rl k) * (pz a + 1) = (rh k - rl k) * pz a + (rh k - rl k) := by rw [Int.mul_add, Int.mul_one]
        rw [e1] at hwr ⊢
        rw [e2]
        by_cases hg : rg k = 2
        · simp only [if_pos hg] at hwr ⊢
          omega
        · simp only [if_neg hg] at hwr ⊢
          omega
/-- what is accepted: te = 0 all, else what ends at the text's end -/
def acc (te n : Int) (o : Int × qCp) : Bool := decide (te = 0 ∨ o.1 = n)
def Kf (te n : Int) : qK := fun p _ c => if te = 0 ∨ p = n then [(p, c)] else []
def c0 : qCp := fun _ => -1
/-- the ways that are accepted -/
def mtl (n : Int) (tx : Int → Int) (e : qT) (te p : Int) : qWs := (dn n tx e p c0).filter (acc te n)
theorem LF_Kf {D : Int → qCp → qWs} {te n p u : Int} {c : qCp} : LF D (Kf te n) p u c = (D p c).filter (acc te n) := by
  show (D p c).flatMap (fun o => Kf te n o.1 _ o.2) = _
  induction D p c with
  | nil => rfl
  | cons o r ih =>
    rw [List.flatMap_cons, ih, List.filter_cons]
    show (if te = 0 ∨ o.1 = n then [(o.1, o.2)] else []) ++ _ = if decide (te = 0 ∨ o.1 = n) = true then o :: _ else _
    by_cases e : te = 0 ∨ o.1 = n
    · rw [if_pos e, decide_eq_true e, if_pos rfl]; rfl
    · rw [if_neg e, decide_eq_false e, if_neg (by decide)]; rfl
/-- the code of a tree is laid -/
def PRE (B : qB) (e : qT) : Prop := Seg B (B 48 0) (B 47 0) e 0 [] 0 ∧ B 42 (cl e) = 11 ∧ B 46 0 = cl e + 1 ∧ GI B ∧ B 47 0 = cm e ∧ B 48 0 = cs e ∧ TXT B ∧ wf e ∧ nst e ∧ wR e ≤ 400 ∧ sd e ≤ 10
/-- what is noted has no way -/
def NGood (B : qB) (e : qT) : Prop := ∃ (G : qG) (gm : Int → Prop), AS (B 57 0) (tB B) G gm e 0 0 (Kf (B 59 0) (B 57 0)) ∧ (∀ pc L, G pc = some L → 0 ≤ pc ∧ pc < cl e ∧ (B 42 pc = 1 ∨ B 42 pc = 6)) ∧ (∀ pc L p u, G pc = some L → Kr B pc p u → fbit B (kN B pc u p) = true → ∀ c, L p u c = [])
theorem GI_keys {B : qB} (h : GI B) : ∀ N : Nat, (N : Int) ≤ B 48 0 → B 54 N ≤ 11 * N := by
  intro N
  induction N with
  | zero => intro _; rw [show ((0 : Nat) : Int) = 0 from rfl, h.2.1]; exact Int.le_refl _
  | succ N ih =>
    intro hN
    have h1 := ih (by omega)
    have h2 := h.2.2.1 N (by omega) (by omega)
    rw [show ((N + 1 : Nat) : Int) = (N : Int) + 1 by omega]
    omega
theorem PRE_56 {B : qB} {e : qT} (h : PRE B e) : 0 ≤ B 56 0 ∧ B 56 0 ≤ 4400 ∧ cl e ≤ 1600 ∧ 0 ≤ cl e ∧ 0 ≤ cs e ∧ cs e ≤ 400 ∧ 0 ≤ cm e ∧ cm e ≤ 400 := by
  obtain ⟨h1, h2, h3, h4, h5, h6, h7, h8, h9, h10, h11⟩ := h
  obtain ⟨a1, a2, a3⟩ := cl_nn e h8
  obtain ⟨b1, b2, b3⟩ := cl_w e h8 h10
  have h12 := GI_keys h4 (B 48 0).toNat (by omega)
  rw [show (((B 48 0).toNat : Nat) : Int) = B 48 0 by omega, h4.1] at h12
  have h13 := GI_le h4 (Int.le_refl 0) (show 0 ≤ B 48 0 by omega) (Int.le_refl _)
  rw [h4.1, h4.2.1] at h13
  omega
theorem NG_new {B : qB} {e : qT} (h : PRE B e) (hb : ∀ k, 0 ≤ k → k < B 56 0 * (B 57 0 + 1) → fbit B k = false) : NGood B e := by
  have h0 := PRE_56 h
  obtain ⟨h1, h2, h3, h4, h5, h6, h7, h8, h9, h10, h11⟩ := h
  obtain ⟨-, G, gm, e1, e2, e3⟩ := AS_LE (B 57 0) (tB B) B (B 48 0) (B 47 0) e 0 0 [] (Kf (B 59 0) (B 57 0)) h8 h1
  refine ⟨G, gm, e1, fun pc L q => by have := e2 pc L q; exact ⟨this.1, by omega, this.2.2⟩, fun pc L p u hG kr hf c => ?_⟩
  have d := e2 pc L hG
  have hr := HR_ok (G := G) h4 h7 (by omega) (lo := 0) (hi := B 46 0) (Int.le_refl _) (Int.le_refl _) (fun pc L q => by have := e2 pc L q; exact ⟨this.1, by omega, this.2.2⟩) pc L p u hG kr
  rw [zz_top, h4.1] at hr
  rw [hb _ hr.2.2.1 hr.2.1] at hf
  exact absurd hf (by decide)
section GOS
variable {m : Nat} {h0 : qH} {d : Nat} {B : qB} {Q : qO → qB → Prop} {e : qT}
theorem R_go (hm : m + 100 < 1000000000) (hP : PRE B e) (hM : MR B) (h59 : B 59 0 = 0 ∨ B 59 0 = 1) {p : Int} (p0 : 0 ≤ p) (p1 : p ≤ B 57 0) (hN : NGood B e) (h66 : B 66 0 = 0) (h49 : ∀ i, 0 ≤ i → i < 20 → B 49 i = -1)
    (kF : mtl (B 57 0) (tB B) e (B 59 0) p = [] → ∀ B', FrS SB B B' → MR B' → CR B' → NGood B' e → Q (.inl (some (iv (-1)))) B')
    (kS : ∀ o r, mtl (B 57 0) (tB B) e (B 59 0) p = o :: r → ∀ B', FrS SB B B' → MR B' → CR B' → (∀ i, 0 ≤ i → i < 20 → B' 49 i = o.2 i) → Q (.inl (some (iv o.1))) B') : qZ m h0 (d + 9) k_go 0 [some (.ref m), some (iv p), none, none] [] B Q := by
  have hP0 := hP
  have hb := PRE_56 hP
  obtain ⟨h1, h2, h3, h4, h5, h6, h7, h8, h9, h10, h11⟩ := hP
  have hT := h7
  obtain ⟨t1, t2, t3, t4, t5⟩ := h7
  obtain ⟨G, gm, g1, g2, g3⟩ := hN
  have hw := pzq_w e h8 h10
  have pz0 := pz_nn e h8
  have pq0' := pq_nn e h8
  have hdom : ∀ pc L, G pc = some L → 0 ≤ pc ∧ pc < B 46 0 ∧ (B 42 pc = 1 ∨ B 42 pc = 6) := fun pc L q => by have := g2 pc L q; exact ⟨this.1, by omega, this.2.2⟩
  have hR := HR_ok (G := G) h4 hT (by omega) (lo := 0) (hi := B 46 0) (Int.le_refl _) (Int.le_refl _) hdom
  rw [h4.2.2.2.1, zz_top, h4.1, h4.2.1, Int.zero_mul] at hR
  have H : HG m h0 d B G 0 (B 56 0 * (B 57 0 + 1)) 0 800 False 0 (2002 * pz e) (2 * pz e) (Igo m h0 (d + 8) Q) (Ogo m h0 (d + 8) Q) (Fgo m h0 (d + 8) Q) (Ago m h0 (d + 8) Q) := ⟨LP_go hm (by omega), hT, Int.le_refl _, by omega, by omega, Int.le_refl _, Int.le_refl _, hm, hR, HJ_ok h4 hT hdom, hdom⟩
  have hAsk : ASK m h0 d B 0 (B 56 0 * (B 57 0 + 1)) False (Igo m h0 (d + 8) Q) (Ogo m h0 (d + 8) Q) (Ago m h0 (d + 8) Q) := ⟨h4, by omega, by omega, Int.le_refl _, Int.le_refl _, id, fun _ w => w⟩
  refine r_go_0_ok hm ?_
  unfold r_go_0
  refine qZ.mono (d := d + 1) (R_push hm (by omega) (by omega) ⟨rfl, ?_⟩) (by omega) (fun _ _ q => q)
  have b66 : psB B (8192 * p) 66 0 = 0 + 1 := by rw [psB_66, h66]
  have b65 : psB B (8192 * p) 65 0 = 8192 * p + 0 := by
    have := psB_top (B := B) (v := 8192 * p)
    rw [h66] at this
    rw [this]
    omega
  have bo : ∀ b z, b ≠ 65 → b ≠ 66 → psB B (8192 * p) b z = B b z := fun b z q1 q2 => psB_oth q1 q2
  generalize psB B (8192 * p) = P at *
  refine H.1.2.1 P 0 p 0 b66 (Int.le_refl _) (by omega) b65 (Int.le_refl _) (by decide) p0 (by omega) ?_
  have ho : ∀ b z, b ≠ 65 → b ≠ 66 → b ≠ 68 → b ≠ 69 → u2 (u2 (u2 P 66 0 0) 68 0 0) 69 0 p b z = B b z := fun b z q1 q2 q3 q4 => by rw [u2_bank q4, u2_bank q3, u2_bank q2]; exact bo b z q1 q2
  have hmul : (B 57 0 - p) * (2 * pz e) ≤ 1000 * (2 * pz e) := Int.mul_le_mul_of_nonneg_right (by omega) (by omega)
  have Sdone : ∀ p' u β, 0 ≤ p' → p' ≤ B 57 0 → RnP B (u2 (u2 (u2 P 66 0 0) 68 0 0) 69 0 p) G gm 0 (B 56 0 * (B 57 0 + 1)) 0 800 False 0 (2002 * pz e) (2 * pz e) (Igo m h0 (d + 8) Q) (Ogo m h0 (d + 8) Q) (Fgo m h0 (d + 8) Q) p' u (0 + cl e) [] (Kf (B 59 0) (B 57 0)) β := by
    intro p' u β p0' p1' B1 c h hSt h68 h69 hC hc h66 hb' hlim hI hO hF
    rw [Int.zero_add] at h68
    have e42 : B1 42 (cl e) = B 42 (cl e) := St_e hSt 42 _ (by omega)
    have e59 : B1 59 0 = B 59 0 := St_e hSt 59 0 (by omega)
    have e57 : B1 57 0 = B 57 0 := St_e hSt 57 0 (by omega)
    refine H.1.1 B1 (R_one11 (d := d + 3) hm (by rw [h68]; omega) (by rw [h68]; omega) (by rw [h68, e42]; exact h2) ⟨2, rfl, Or.inr (Or.inr (Or.inl ⟨rfl, ?_⟩))⟩)
    by_cases ha : B 59 0 = 0 ∨ p' = B 57 0
    · exact hF (p', c) [] (if_pos ha) B1 hSt h69 hc
    · refine ⟨⟨by rw [e59]; exact ⟨by omega, by omega⟩, by rw [h69]; exact ⟨by omega, by omega⟩, by rw [e57]; exact ⟨by omega, by omega⟩⟩, fun q => ?_, fun _ => fails hSt h66 hO (if_neg ha)⟩
      rw [e59, h69, e57] at q
      exact absurd q ha
  have hrun := TR_all e m h0 d B (u2 (u2 (u2 P 66 0 0) 68 0 0) 69 0 p) G gm 0 (B 56 0 * (B 57 0 + 1)) 0 800 False 0 (2002 * pz e) (2 * pz e) (Igo m h0 (d + 8) Q) (Ogo m h0 (d + 8) Q) (Fgo m h0 (d + 8) Q) (Ago m h0 (d + 8) Q) 0 0 (B 48 0) (B 47 0) [] (Kf (B 59 0) (B 57 0)) p 0 (pz e) (pz e) H (Or.inr ⟨hAsk, h9⟩) h1 (by omega) trivial (fun q hq => by simp at hq) (by simp only [List.length_nil]; omega) h8 g1 (fun p u c c' => by unfold Kf; split <;> rfl) (Int.le_refl _) (by omega) (Int.le_refl _) (by omega) (by omega) p0 p1 (Int.le_refl _) pz0 (Int.le_refl _) (by omega) (Sdone p 0 (pz e) p0 p1) (fun p' w1 w2 => Sdone p' 0 (pz e) (by omega) w2)
  have M1 : MR (u2 (u2 (u2 P 66 0 0) 68 0 0) 69 0 p) := fun q q0 q1 => by rw [ho 51 q (by decide) (by decide) (by decide) (by decide)]; exact hM q q0 q1
  have C1 : CR (u2 (u2 (u2 P 66 0 0) 68 0 0) 69 0 p) := fun q q0 q1 => by rw [ho 49 q (by decide) (by decide) (by decide) (by decide), h49 q q0 q1]; exact ⟨by decide, by decide⟩
  have F1 : FrS SB B (u2 (u2 (u2 P 66 0 0) 68 0 0) 69 0 p) := fun b z hs => ho b z (by unfold SB at hs; omega) (by unfold SB at hs; omega) (by unfold SB at hs; omega) (by unfold SB at hs; omega)
  have b1 : ∀ k, fbit (u2 (u2 (u2 P 66 0 0) 68 0 0) 69 0 p) k = fbit B k := fun k => fbit_eq (fun z => ho 67 z (by decide) (by decide) (by decide) (by decide))
  have e69 : (u2 (u2 (u2 P 66 0 0) 68 0 0) 69 0 p) 69 0 = p := u2_same
  have e68 : (u2 (u2 (u2 P 66 0 0) 68 0 0) 69 0 p) 68 0 = 0 := by rw [u2_bank (by decide), u2_same]
  have e66 : (u2 (u2 (u2 P 66 0 0) 68 0 0) 69 0 p) 66 0 = 0 := by rw [u2_bank (by decide), u2_bank (by decide), u2_same]
  have e49 : ∀ i, 0 ≤ i → i < 20 → (u2 (u2 (u2 P 66 0 0) 68 0 0) 69 0 p) 49 i = c0 i := fun i i0 i1 => by rw [ho 49 i (by decide) (by decide) (by decide) (by decide)]; exact h49 i i0 i1
  generalize u2 (u2 (u2 P 66 0 0) 68 0 0) 69 0 p = B1 at *
  refine hrun B1 c0 0 ⟨F1, M1, C1, fun _ _ => rfl, fun _ _ => rfl, fun _ _ => rfl, fun w => w.elim⟩ e68 e69 ⟨[], [], rfl, fun q hq => by simp at hq, fun q hq => by simp at hq, rfl⟩ e49 e66 (Int.le_refl _) (by omega) (fun pc L p' u' hG kr hf _ => g3 pc L p' u' hG kr (by rw [← b1]; exact hf)) (fun hn B' hPF => ?_) (fun o r hl B' hS' e69' e49' => ?_)
  · rw [LF_Kf] at hn
    obtain ⟨f1, f2, f3, f4, f5, f6⟩ := hPF
    refine r_go_9_ok hm ?_
    unfold r_go_9
    rw [f2]
    refine ⟨⟨by decide, by decide⟩, fun _ => kF hn B' f1.1 f1.2.1 f1.2.2.1 ?_, fun q => absurd q (by decide)⟩
    have s57 : B' 57 0 = B 57 0 := f1.1 57 0 (by unfold SB; omega)
    have s59 : B' 59 0 = B 59 0 := f1.1 59 0 (by unfold SB; omega)
    refine ⟨G, gm, by rw [s57, s59, St_tB f1]; exact g1, fun pc L q => by rw [f1.1 42 pc (by unfold SB; omega)]; exact g2 pc L q, fun pc L p' u' hG kr hf c => ?_⟩
    have s45 : B' 45 pc = B 45 pc := f1.1 45 pc (by unfold SB; omega)
    have s54 : ∀ z, B' 54 z = B 54 z := fun z => f1.1 54 z (by unfold SB; omega)
    have kr' : Kr B pc p' u' := by
      unfold Kr dpt at kr ⊢
      rw [s57, s45, s54, s54] at kr
      exact kr
    have ek : kN B' pc u' p' = kN B pc u' p' := by unfold kN; rw [s57, s45, s54]
    rw [ek] at hf
    rcases f6 pc L p' u' hG kr' hf with w | w
    · exact g3 pc L p' u' hG kr' (by rw [← b1]; exact w) c
    · exact w c
  · rw [LF_Kf] at hl
    have hmem : o ∈ (dn (B 57 0) (tB B) e p c0).filter (acc (B 59 0) (B 57 0)) := by rw [hl]; exact List.mem_cons_self ..
    obtain ⟨q1, q2⟩ := List.mem_filter.mp hmem
    have hr := dn_Rg (B 57 0) (tB B) e p c0 p0 p1 o q1
    have s57 : B' 57 0 = B 57 0 := hS'.1 57 0 (by unfold SB; omega)
    have s59 : B' 59 0 = B 59 0 := hS'.1 59 0 (by unfold SB; omega)
    have q3 : B 59 0 = 0 ∨ o.1 = B 57 0 := of_decide_eq_true q2
    refine ⟨⟨by rw [s59]; exact ⟨by omega, by omega⟩, by rw [e69']; exact ⟨by omega, by omega⟩, by rw [s57]; exact ⟨by omega, by omega⟩⟩, fun _ => ?_, fun q => ?_⟩
    · rw [e69']
      exact kS o r hl _ (hS'.1.u2 (by unfold SB; omega)) (fun q q0 q1 => by rw [u2_bank (by decide)]; exact hS'.2.1 q q0 q1) (fun q q0 q1 => by rw [u2_bank (by decide)]; exact hS'.2.2.1 q q0 q1) (fun i i0 i1 => by rw [u2_bank (by decide)]; exact e49' i i0 i1)
    · rw [s59, e69', s57] at q
      exact absurd q3 q
theorem PRE_fr {B B' : qB} {e : qT} (h : PRE B e) (f : FrS SB B B') : PRE B' e := by
  have hb := PRE_56 h
  obtain ⟨h1, h2, h3, h4, h5, h6, h7, h8, h9, h10, h11⟩ := h
  have s : ∀ b z, b ≤ 48 ∨ b = 50 ∨ (52 ≤ b ∧ b ≤ 64) → B' b z = B b z := fun b z q => f b z (by unfold SB; omega)
  refine ⟨?_, by rw [s 42 _ (by omega)]; exact h2, by rw [s 46 0 (by omega)]; exact h3, GI_eq h4 (fun b y q => s b y (by omega)), by rw [s 47 0 (by omega)]; exact h5, by rw [s 48 0 (by omega)]; exact h6, ?_, h8, h9, h10, h11⟩
  · rw [s 48 0 (by omega), s 47 0 (by omega)]
    exact Seg_fr (fun y _ _ => s 52 y (by omega)) (fun y _ _ => s 54 y (by omega)) (fun y _ _ => s 53 y (by omega)) (fun y => s 27 y (by omega)) (Int.le_refl _) (Int.le_refl _) e 0 [] 0 h8 (fun b y b1 b2 _ _ => s b y (by omega)) h1
  · obtain ⟨t1, t2, t3, t4, t5⟩ := h7
    exact ⟨by rw [s 57 0 (by omega)]; exact t1, by rw [s 57 0 (by omega)]; exact t2, by rw [s 58 0 (by omega)]; exact t3, by rw [s 58 0 (by omega)]; exact t4, fun x x0 x1 => by rw [s 5 x (by omega)]; exact t5 x x0 x1⟩
theorem NG_fr {B B' : qB} {e : qT} (h : NGood B e) (f : FrS SB B B') (fb : ∀ k, fbit B' k = fbit B k) : NGood B' e := by
  obtain ⟨G, gm, g1, g2, g3⟩ := h
  have s57 : B' 57 0 = B 57 0 := f 57 0 (by unfold SB; omega)
  have s59 : B' 59 0 = B 59 0 := f 59 0 (by unfold SB; omega)
  have st : tB B' = tB B := by
    funext p
    unfold tB
    rw [f 58 0 (by unfold SB; omega), f 5 _ (by unfold SB; omega)]
  refine ⟨G, gm, by rw [s57, s59, st]; exact g1, fun pc L q => by rw [f 42 pc (by unfold SB; omega)]; exact g2 pc L q, fun pc L p' u' hG kr hf c => ?_⟩
  have s45 : B' 45 pc = B 45 pc := f 45 pc (by unfold SB; omega)
  have s54 : ∀ z, B' 54 z = B 54 z := fun z => f 54 z (by unfold SB; omega)
  have kr' : Kr B pc p' u' := by
    unfold Kr dpt at kr ⊢
    rw [s57, s45, s54, s54] at kr
    exact kr
  have ek : kN B' pc u' p' = kN B pc u' p' := by unfold kN; rw [s57, s45, s54]
  rw [ek, fb] at hf
  exact g3 pc L p' u' hG kr' hf c
/-- one try -/
theorem R_tryAt (hm : m + 100 < 1000000000) (hP : PRE B e) (hM : MR B) (h59 : B 59 0 = 0 ∨ B 59 0 = 1) {p : Int} (p0 : 0 ≤ p) (p1 : p ≤ B 57 0) (hN : NGood B e)
    (kF : mtl (B 57 0) (tB B) e (B 59 0) p = [] → ∀ B', FrS SB B B' → MR B' → NGood B' e → Q (.inl (some (iv (-1)))) B')
    (kS : ∀ o r, mtl (B 57 0) (tB B) e (B 59 0) p = o :: r → ∀ B', FrS SB B B' → MR B' → CR B' → p ≤ o.1 → o.1 ≤ B 57 0 → B' 49 0 = p → B' 49 1 = o.1 → (∀ i, 2 ≤ i → i < 20 → B' 49 i = o.2 i) → Q (.inl (some (iv o.1))) B') : qZ m h0 (d + 10) k_tryAt 0 [some (.ref m), some (iv p), none] [] B Q := by
  have hb := PRE_56 hP
  have h47 : B 47 0 = cm e := hP.2.2.2.2.1
  have hT := hP.2.2.2.2.2.2.1
  obtain ⟨t1, t2, t3, t4, t5⟩ := hT
  -- the second loop, and what comes behind it
  have L2 : ∀ (N : Nat) (k : Int) (Bk : qB), 0 ≤ k → k + N = B 47 0 → FrS SB B Bk → MR Bk → (∀ i, 0 ≤ i → i < 20 → Bk 49 i = -1) → (∀ k, fbit Bk k = fbit B k) → qZ m h0 (d + 10) k_tryAt 23 [some (.ref m), some (iv p), some (iv k)] [] Bk Q := by
    intro N
    induction N with
    | zero =>
      intro k Bk k0 hk f1 m1 c1 b1
      have f47 : Bk 47 0 = B 47 0 := f1 47 0 (by unfold SB; omega)
      have s57 : Bk 57 0 = B 57 0 := f1 57 0 (by unfold SB; omega)
      have s59 : Bk 59 0 = B 59 0 := f1 59 0 (by unfold SB; omega)
      have st : tB Bk = tB B := by
        funext p
        unfold tB
        rw [f1 58 0 (by unfold SB; omega), f1 5 _ (by unfold SB; omega)]
      refine r_tryAt_23_ok hm ?_
      unfold r_tryAt_23
      rw [f47]
      refine ⟨⟨by omega, by omega⟩, ⟨by omega, by omega⟩, fun _ => ?_, fun q => by omega⟩
      have f2 : FrS SB B (u2 Bk 66 0 0) := f1.u2 (by unfold SB; omega)
      have g57 : (u2 Bk 66 0 0) 57 0 = B 57 0 := by rw [u2_bank (by decide)]; exact s57
      have g59 : (u2 Bk 66 0 0) 59 0 = B 59 0 := by rw [u2_bank (by decide)]; exact s59
      have gt : tB (u2 Bk 66 0 0) = tB B := by
        rw [← st]
        funext p
        unfold tB
        rw [u2_bank (by decide), u2_bank (by decide)]
      refine R_go hm (e := e) (PRE_fr hP f2) (fun q q0 q1 => by rw [u2_bank (by decide)]; exact m1 q q0 q1) (by rw [g59]; exact h59) p0 (by rw [g57]; exact p1) (NG_fr hN f2 (fun k => by rw [fbit_eq (B := Bk) (fun z => u2_bank (by decide))]; exact b1 k)) u2_same (fun i i0 i1 => by rw [u2_bank (by decide)]; exact c1 i i0 i1) (fun hn B' f3 m3 _ n3 => ⟨-1, rfl, ?_⟩) (fun o r hl B' f3 m3 c3 e3 => ⟨o.1, rfl, ?_⟩)
      · rw [g57, gt, g59] at hn
        unfold r_tryAt_54
        exact ⟨⟨by decide, by decide⟩, fun q => absurd q (by decide), fun _ => kF hn B' (FrS.trans f2 f3 (fun _ _ q => q)) m3 n3⟩
      · rw [g57, gt, g59] at hl
        have hmem : o ∈ (dn (B 57 0) (tB B) e p c0).filter (acc (B 59 0) (B 57 0)) := by
          have : o ∈ mtl (B 57 0) (tB B) e (B 59 0) p := by rw [hl]; exact List.mem_cons_self ..
          exact this
        have hr := dn_Rg (B 57 0) (tB B) e p c0 p0 p1 o (List.mem_filter.mp hmem).1
        unfold r_tryAt_54
        refine ⟨⟨by omega, by omega⟩, fun _ => ?_, fun q => by omega⟩
        refine kS o r hl _ (((FrS.trans f2 f3 (fun _ _ q => q)).u2 (by unfold SB; omega)).u2 (by unfold SB; omega)) (fun q q0 q1 => by rw [u2_bank (by decide), u2_bank (by decide)]; exact m3 q q0 q1) (fun q q0 q1 => ?_) hr.1 hr.2 (by rw [u2_idx (by decide), u2_same]) u2_same (fun i i0 i1 => by rw [u2_idx (by omega), u2_idx (by omega)]; exact e3 i (by omega) i1)
        by_cases e1 : q = 1
        · subst e1; rw [u2_same]; exact ⟨by omega, by omega⟩
        · rw [u2_idx e1]
          by_cases e2 : q = 0
          · subst e2; rw [u2_same]; exact ⟨by omega, by omega⟩
          · rw [u2_idx e2]; exact c3 q q0 q1
    | succ N ih =>
      intro k Bk k0 hk f1 m1 c1 b1
      have f47 : Bk 47 0 = B 47 0 := f1 47 0 (by unfold SB; omega)
      refine r_tryAt_23_ok hm ?_
      unfold r_tryAt_23
      rw [f47]
      refine ⟨⟨by omega, by omega⟩, ⟨by omega, by omega⟩, fun q => by omega, fun _ => ⟨by omega, by omega, ih (k + 1) _ (by omega) (by omega) (f1.u2 (by unfold SB; omega)) (fun q q0 q1 => ?_) (fun i i0 i1 => by rw [u2_bank (by decide)]; exact c1 i i0 i1) (fun j => by rw [fbit_eq (B := Bk) (fun z => u2_bank (by decide))]; exact b1 j)⟩⟩
      by_cases e1 : q = k
      · subst e1; rw [u2_same]; exact ⟨by decide, by decide⟩
      · rw [u2_idx e1]; exact m1 q q0 q1
  have L1 : ∀ (N : Nat) (k : Int) (Bk : qB), 0 ≤ k → k + N = 20 → FrS SB B Bk → MR Bk → (∀ i, 0 ≤ i → i < k → Bk 49 i = -1) → (∀ k, fbit Bk k = fbit B k) → qZ m h0 (d + 10) k_tryAt 2 [some (.ref m), some (iv p), some (iv k)] [] Bk Q := by
    intro N
    induction N with
    | zero =>
      intro k Bk k0 hk f1 m1 c1 b1
      have hk' : k = 20 := by omega
      subst hk'
      refine r_tryAt_2_ok hm ?_
      unfold r_tryAt_2
      exact ⟨⟨by decide, by decide⟩, fun _ => L2 (B 47 0).toNat 0 Bk (Int.le_refl _) (by omega) f1 m1 c1 b1, fun q => absurd q (by decide)⟩
    | succ N ih =>
      intro k Bk k0 hk f1 m1 c1 b1
      refine r_tryAt_2_ok hm ?_
      unfold r_tryAt_2
      refine ⟨⟨by omega, by omega⟩, fun q => by omega, fun _ => ⟨by omega, by omega, ih (k + 1) _ (by omega) (by omega) (f1.u2 (by unfold SB; omega)) (fun q q0 q1 => by rw [u2_bank (by decide)]; exact m1 q q0 q1) (fun i i0 i1 => ?_) (fun j => by rw [fbit_eq (B := Bk) (fun z => u2_bank (by decide))]; exact b1 j)⟩⟩
      by_cases e1 : i = k
      · subst e1; rw [u2_same]
      · rw [u2_idx e1]; exact c1 i i0 (by omega)
  refine r_tryAt_0_ok hm ?_
  unfold r_tryAt_0
  exact L1 20 0 B (Int.le_refl _) (by omega) FrS.refl hM (fun i i0 i1 => by omega) (fun _ => rfl)
end GOS
