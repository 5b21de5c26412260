/-! THE REFERENCE'S SEARCH: questions -/
/-- entries that tell what slots were, the latest first -/
def stk (f : Int → Int) (h : Int) (was : Int → Int) : List Int → Prop
  | [] => True
  | s :: r => f (h + r.length) = bw s (was s) ∧ 0 ≤ s ∧ s < 20 ∧ stk f h was r
theorem stk_eq {f g : Int → Int} {h : Int} {was : Int → Int} : ∀ ws : List Int, (∀ y, h ≤ y → y < h + ws.length → g y = f y) → stk f h was ws → stk g h was ws := by
  intro ws
  induction ws with
  | nil => intro _ _; trivial
  | cons s r ih =>
    intro e q
    refine ⟨(e _ (by omega) (by rw [List.length_cons]; omega)).trans q.1, q.2.1, q.2.2.1, ih (fun y y0 y1 => e y y0 (by rw [List.length_cons]; omega)) q.2.2.2⟩
theorem unwind {O : qB → Prop} {bot h : Int} {was : Int → Int} (hL : ∀ B h s v, B 66 0 = h + 1 → bot ≤ h → h < 2500000 → B 65 h = bw s v → 0 ≤ s → s < 20 → -1 ≤ v → v ≤ 1000 → O (u2 (u2 B 66 0 h) 49 s v) → O B) (hw : ∀ s, 0 ≤ s → s < 20 → -1 ≤ was s ∧ was s ≤ 1000) (hb : bot ≤ h) : ∀ (ws : List Int) (B' : qB), B' 66 0 = h + ws.length → h + ws.length ≤ 2500000 → stk (B' 65) h was ws → (∀ B2, B2 66 0 = h → (∀ b y, b ≠ 66 → b ≠ 49 → B2 b y = B' b y) → (∀ i, B2 49 i = if i ∈ ws then was i else B' 49 i) → O B2) → O B' := by
  intro ws
  induction ws with
  | nil =>
    intro B' h66 _ _ k
    exact k B' (by rw [h66]; simp) (fun _ _ _ _ => rfl) (fun i => by rw [if_neg (by simp)])
  | cons s r ih =>
    intro B' h66 hl hs k
    rw [List.length_cons] at h66 hl
    obtain ⟨q1, q2, q3, q4⟩ := hs
    have hv := hw s q2 q3
    refine hL B' (h + r.length) s (was s) (by rw [h66]; omega) (by omega) (by omega) q1 q2 q3 hv.1 hv.2 ?_
    refine ih _ (by rw [u2_bank (by decide), u2_same]) (by omega) (stk_eq r (fun y _ _ => by rw [u2_bank (by decide), u2_bank (by decide)]) q4) (fun B2 e1 e2 e3 => ?_)
    refine k B2 e1 (fun b y n1 n2 => by rw [e2 b y n1 n2, u2_bank n2, u2_bank n1]) (fun i => ?_)
    rw [e3 i]
    by_cases hi : i ∈ r
    · rw [if_pos hi, if_pos (List.mem_cons_of_mem _ hi)]
    · rw [if_neg hi]
      by_cases e : i = s
      · subst e; rw [u2_same, if_pos (List.mem_cons_self ..)]
      · rw [u2_idx e, u2_bank (by decide), if_neg (fun w => (List.mem_cons.mp w).elim e hi)]
section ASKED
variable {m : Nat} {h0 : qH} {d : Nat} {Q : qO → qB → Prop}
theorem askEnd (hm : m + 100 < 1000000000) {a p v kd y : Int} {B : qB} (a0 : 0 ≤ a) (a1 : a < 6000) (h43 : B 43 a = kd) (h44 : B 44 a = y) (hk : kd = 0 ∨ kd = 1 ∨ kd = 2) (hv : R32 v) (kG : ¬ ((kd = 2 ∧ 0 ≤ v) ∨ (¬ kd = 2 ∧ v < 0)) → Q (.inl (some (iv 0))) (u2 (u2 B 69 0 (if kd = 0 then v else p)) 68 0 y)) (kN : ((kd = 2 ∧ 0 ≤ v) ∨ (¬ kd = 2 ∧ v < 0)) → Q (.inl (some (iv 1))) B) : qZ m h0 (d + 1) k_asked 81 [some (.ref m), some (iv a), some (iv p), some (iv v), some (iv 20)] [] B Q := by
  refine r_asked_81_ok hm ?_
  unfold r_asked_81 r_asked_147 r_asked_162
  rw [h43, h44]
  have hR : R32 kd := ⟨by omega, by omega⟩
  refine ⟨⟨by decide, by decide⟩, fun _ => ⟨a0, a1, hR, fun n2 => ⟨hv, fun hv0 => ⟨a0, a1, hR, fun nz => ⟨a0, a1, ?_⟩, fun z => ⟨a0, a1, ?_⟩⟩, fun hv0 => kN (Or.inr ⟨n2, hv0⟩)⟩, fun e2 => ⟨hv, fun hv0 => ⟨a0, a1, hR, fun nz => ⟨a0, a1, ?_⟩, fun z => by omega⟩, fun hv0 => kN (Or.inl ⟨e2, hv0⟩)⟩⟩, fun q => absurd q (by decide)⟩
  · have := kG (by omega)
    rw [if_neg nz] at this
    exact this
  · have := kG (by omega)
    rw [if_pos z] at this
    exact this
  · have := kG (by omega)
    rw [if_neg nz] at this
    exact this
/-- what the slots were is told -/
theorem askLoop (hm : m + 100 < 1000000000) {a p v h : Int} {was : Int → Int} {slx : List Int} {B5 : qB} (hh : 0 ≤ h) (hh2 : h ≤ 2499000) (hC : CR B5) (hw : ∀ s, 0 ≤ s → s < 20 → -1 ≤ was s ∧ was s ≤ 1000) (h70 : ∀ i, 0 ≤ i → i < 20 → B5 70 i = was i) (hch : ∀ i, 0 ≤ i → i < 20 → ¬ B5 49 i = was i → i ∈ slx)
    (fin : ∀ (Bk : qB) (ws : List Int), (∀ b z, b ≠ 65 → b ≠ 66 → Bk b z = B5 b z) → Bk 66 0 = h + ws.length → (∀ z, z < h → Bk 65 z = B5 65 z) → stk (Bk 65) h was ws → (ws.length : Int) ≤ slx.length → (∀ i, 0 ≤ i → i < 20 → ¬ i ∈ ws → B5 49 i = was i) → qZ m h0 (d + 8) k_asked 81 [some (.ref m), some (iv a), some (iv p), some (iv v), some (iv 20)] [] Bk Q) :
    ∀ (N k : Nat) (Bk : qB) (ws : List Int), k + N = 20 → (∀ b z, b ≠ 65 → b ≠ 66 → Bk b z = B5 b z) → Bk 66 0 = h + ws.length → (∀ z, z < h → Bk 65 z = B5 65 z) → stk (Bk 65) h was ws → (ws.length : Int) ≤ cnt slx k → (ws.length : Int) ≤ k → (∀ i : Int, 0 ≤ i → i < k → ¬ i ∈ ws → B5 49 i = was i) → qZ m h0 (d + 8) k_asked 81 [some (.ref m), some (iv a), some (iv p), some (iv v), some (iv k)] [] Bk Q := by
  intro N
  induction N with
  | zero =>
    intro k Bk ws hk e1 e2 e3 e4 e5 e6 e7
    have hk' : k = 20 := by omega
    subst hk'
    exact fin Bk ws e1 e2 e3 e4 (Int.le_trans e5 (cnt_le slx 20)) (fun i i0 i1 hi => e7 i i0 i1 hi)
  | succ N ih =>
    intro k Bk ws hk e1 e2 e3 e4 e5 e6 e7
    have c1 := hC k (by omega) (by omega)
    have c2 := hw k (by omega) (by omega)
    have f49 : Bk 49 k = B5 49 k := e1 49 k (by decide) (by decide)
    have f70 : Bk 70 k = was k := (e1 70 k (by decide) (by decide)).trans (h70 k (by omega) (by omega))
    have ecnt : cnt slx (k + 1) = cnt slx k + (if (k : Int) ∈ slx then 1 else 0) := rfl
    refine r_asked_81_ok hm ?_
    unfold r_asked_81 r_asked_118
    rw [f49, f70]
    refine ⟨⟨by omega, by omega⟩, fun q => by omega, fun _ => ⟨by omega, by omega, ⟨by omega, by omega⟩, ⟨by omega, by omega⟩, fun heq => ?_, fun hne => ?_⟩⟩
    · have := ih (k + 1) Bk ws (by omega) e1 e2 e3 e4 (by rw [ecnt]; split <;> omega) (by omega) (fun i i0 i1 hi => by
        by_cases e : i = k
        · rw [e]; exact heq
        · exact e7 i i0 (by omega) hi)
      rw [show ((k + 1 : Nat) : Int) = (k : Int) + 1 by omega] at this
      exact this
    · have hin := hch k (by omega) (by omega) hne
      refine qZ.mono (d := d + 2) (R_before hm (by omega) (by omega) ⟨rfl, ?_⟩) (by omega) (fun _ _ q => q)
      have := ih (k + 1) (psB Bk (bw k (was k))) ((k : Int) :: ws) (by omega) (fun b z n1 n2 => (psB_oth n1 n2).trans (e1 b z n1 n2)) (by rw [psB_66, e2, List.length_cons]; omega) (fun z hz => by rw [psB_low (by omega)]; exact e3 z hz) ⟨by rw [← e2]; exact psB_top, by omega, by omega, stk_eq ws (fun z z0 z1 => psB_low (by omega)) e4⟩ (by rw [ecnt, if_pos hin, List.length_cons]; omega) (by rw [List.length_cons]; omega) (fun i i0 i1 hi => by
        by_cases e : i = k
        · exact absurd (e ▸ List.mem_cons_self ..) hi
        · exact e7 i i0 (by omega) (fun w => hi (List.mem_cons_of_mem _ w)))
      rw [show ((k + 1 : Nat) : Int) = (k : Int) + 1 by omega] at this
      exact this
/-- what a question leaves -/
def AF (B0 B : qB) (a y J q h : Int) (B' : qB) : Prop := FrS SB B0 B' ∧ MR B' ∧ CR B' ∧ (∀ z, z < h → B' 65 z = B 65 z) ∧ (∀ κ, ¬ (B0 54 (zz B0 (a + 1)) * (B0 57 0 + 1) ≤ κ ∧ κ < B0 54 (zz B0 (y - 1)) * (B0 57 0 + 1)) → fbit B' κ = fbit B κ) ∧ (∀ r, ¬ (J ≤ r ∧ r < J + q) → B' 51 r = B 51 r)
theorem R_asked {B0 : qB} {a y J q pw kd : Int} {Db : Int → qCp → qWs} {slx : List Int} (hm : m + 100 < 1000000000) (hT : TXT B0) (hGI : GI B0) (hcd : B0 46 0 ≤ 5991) (hsp : B0 48 0 ≤ 1995) (hK : B0 56 0 ≤ 4500) (a0 : 0 ≤ a) (ay : a + 1 < y) (y1 : y < B0 46 0) (h42 : B0 42 a = 6) (h43 : B0 43 a = kd) (hk : kd = 0 ∨ kd = 1 ∨ kd = 2) (h44 : B0 44 a = y) (hD : B0 42 (y - 1) = 11) (J0 : 0 ≤ J) (J1 : J + q ≤ 800) (pw0 : 0 ≤ pw) (hBody : BodyOK m h0 d B0 a y J q pw Db) (hRg : Rg (B0 57 0) Db) (hCh : Chg Db slx) {B : qB} {p h : Int} {c : qCp} (fB : FrS SB B0 B) (hM : MR B) (hC : CR B) (h66 : B 66 0 = h) (h68 : B 68 0 = a) (h69 : B 69 0 = p) (hh : 0 ≤ h) (hroom : h + 2002 * pw ≤ 2499000) (p0 : 0 ≤ p) (p1 : p ≤ B0 57 0) (hc : ∀ i, 0 ≤ i → i < 20 → B 49 i = c i)
    (kS : ∀ o r, Db p c = o :: r → ∀ (B' : qB) (ws : List Int), AF B0 B a y J q h B' → B' 66 0 = h + ws.length → (ws.length : Int) ≤ slx.length → stk (B' 65) h (B 49) ws → (∀ i, 0 ≤ i → i < 20 → ¬ i ∈ ws → B' 49 i = B 49 i) → (∀ i, 0 ≤ i → i < 20 → B' 49 i = o.2 i) → (kd = 2 → Q (.inl (some (iv 1))) B') ∧ (¬ kd = 2 → Q (.inl (some (iv 0))) (u2 (u2 B' 69 0 (if kd = 0 then o.1 else p)) 68 0 y)))
    (kF : Db p c = [] → ∀ B', AF B0 B a y J q h B' → B' 66 0 = h → (∀ i, 0 ≤ i → i < 20 → B' 49 i = B 49 i) → (kd = 2 → Q (.inl (some (iv 0))) (u2 (u2 B' 69 0 p) 68 0 y)) ∧ (¬ kd = 2 → Q (.inl (some (iv 1))) B')) : qZ m h0 (d + 8) k_asked 0 [some (.ref m), none, none, none, none] [] B Q := by
  have hT' := hT
  obtain ⟨t1, t2, t3, t4, t5⟩ := hT
  have hza : zz B0 (a + 1) = B0 45 a + 1 := by
    have := hGI.2.2.2.2 a a0 (by omega)
    rw [if_pos (Or.inr h42)] at this
    exact this
  have hzy : zz B0 (y - 1) = B0 45 y := by
    have := hGI.2.2.2.2 (y - 1) (by omega) (by omega)
    rw [if_neg (by omega), show y - 1 + 1 = y by omega, zz_at y1] at this
    rw [zz_at (by omega)]
    omega
  obtain ⟨za, zb⟩ := zz_in hGI a0 (show a < B0 46 0 by omega) (Or.inr h42)
  have hz1 := zz_mono hGI (show 0 ≤ a + 1 by omega) (show a + 1 ≤ y - 1 by omega) (by omega)
  have hz2 := zz_mono hGI (show 0 ≤ y - 1 by omega) (show y - 1 ≤ B0 46 0 by omega) (Int.le_refl _)
  rw [zz_top] at hz2
  rw [hza, hzy] at hz1
  rw [hzy] at hz2
  have k54 := GI_le hGI (show 0 ≤ B0 45 a + 1 by omega) hz1 hz2
  have k54b := GI_le hGI (Int.le_refl 0) (show 0 ≤ B0 45 a + 1 by omega) (by omega)
  have k54c := GI_le hGI (show 0 ≤ B0 45 y by omega) hz2 (Int.le_refl _)
  rw [hGI.1] at k54c
  rw [hGI.2.1] at k54b
  have hmul : B0 54 (B0 45 y) * (B0 57 0 + 1) ≤ 4500 * (B0 57 0 + 1) := Int.mul_le_mul_of_nonneg_right (by omega) (by omega)
  have eS : ∀ b z, SB b z → B b z = B0 b z := fB
  refine r_asked_0_ok hm ?_
  unfold r_asked_0
  rw [h68, h69]
  have L1 : ∀ (N k : Nat) (Bk : qB), k + N = 20 → (∀ b z, b ≠ 70 → Bk b z = B b z) → (∀ i : Int, 0 ≤ i → i < k → Bk 70 i = B 49 i) → qZ m h0 (d + 8) k_asked 12 [some (.ref m), some (iv a), some (iv p), some (iv k), none] [] Bk Q := by
    intro N
    induction N with
    | zero =>
      intro k Bk hk1 e1 e2
      have hk' : k = 20 := by omega
      subst hk'
      have f : ∀ b z, SB b z → Bk b z = B0 b z := fun b z hs => (e1 b z (by unfold SB at hs; omega)).trans (eS b z hs)
      have f45 : Bk 45 a = B0 45 a := f 45 a (by unfold SB; omega)
      have f44 : Bk 44 a = y := (f 44 a (by unfold SB; omega)).trans h44
      have f45y : Bk 45 y = B0 45 y := f 45 y (by unfold SB; omega)
      have f57 : Bk 57 0 = B0 57 0 := f 57 0 (by unfold SB; omega)
      refine r_asked_12_ok hm ?_
      unfold r_asked_12
      rw [f44, f45, f45y, f 54 (B0 45 a + 1) (by unfold SB; omega), f 54 (B0 45 y) (by unfold SB; omega)]
      refine ⟨⟨by decide, by decide⟩, fun _ => ⟨a0, by omega, by omega, by omega, by omega, by omega, by omega, by omega, ?_⟩, fun q => absurd q (by decide)⟩
      refine qZ.mono (d := d + 1) (R_clearNotes hm (by omega) (by omega) (by rw [f57]; exact t1) (by rw [f57]; omega) (fun B4 g1 g2 => ⟨rfl, ?_⟩)) (by omega) (fun _ _ q => q)
      rw [f57] at g2
      unfold r_asked_69
      have fr4 : FrS SB B0 B4 := fun b z hs => (g1 b z (by unfold SB at hs; omega)).trans (f b z hs)
      have e4 : ∀ b z, b ≠ 67 → b ≠ 70 → B4 b z = B b z := fun b z n1 n2 => (g1 b z n1).trans (e1 b z n2)
      have b4 : ∀ κ, fbit B4 κ = (fbit B κ && !(decide (B0 54 (B0 45 a + 1) * (B0 57 0 + 1) ≤ κ) && decide (κ < B0 54 (B0 45 y) * (B0 57 0 + 1)))) := fun κ => by rw [g2 κ, fbit_eq (B := B) (fun z => e1 67 z (by decide))]
      have M4 : MR B4 := fun r r0 r1 => by rw [e4 51 r (by decide) (by decide)]; exact hM r r0 r1
      have C4 : CR B4 := fun r r0 r1 => by rw [e4 49 r (by decide) (by decide)]; exact hC r r0 r1
      have w4 : ∀ i : Int, 0 ≤ i → i < 20 → B4 70 i = B 49 i := fun i i0 i1 => (g1 70 i (by decide)).trans (e2 i i0 i1)
      -- from the question's search to the frame
      have toAF : ∀ B', St B0 B4 (B0 54 (zz B0 (a + 1)) * (B0 57 0 + 1)) (B0 54 (zz B0 (y - 1)) * (B0 57 0 + 1)) J (J + q) True h B' → AF B0 B a y J q h B' := by
        intro B' hs
        obtain ⟨s1, s2, s3, s4, s5, s6, s7⟩ := hs
        refine ⟨s1, s2, s3, fun z hz => (s4 z hz).trans (e4 65 z (by decide) (by decide)), fun κ hκ => ?_, fun r hr => (s6 r hr).trans (e4 51 r (by decide) (by decide))⟩
        rw [s5 κ hκ, b4 κ]
        rw [hza, hzy] at hκ
        have : (decide (B0 54 (B0 45 a + 1) * (B0 57 0 + 1) ≤ κ) && decide (κ < B0 54 (B0 45 y) * (B0 57 0 + 1))) = false := by
          rw [Bool.and_eq_false_iff, decide_eq_false_iff_not, decide_eq_false_iff_not]
          omega
        rw [this]
        simp
      have AF_fr : ∀ B' Bk', AF B0 B a y J q h B' → (∀ b z, b ≠ 65 → b ≠ 66 → Bk' b z = B' b z) → (∀ z, z < h → Bk' 65 z = B' 65 z) → AF B0 B a y J q h Bk' := by
        intro B' Bk' hs n1 n2
        obtain ⟨s1, s2, s3, s4, s5, s6⟩ := hs
        refine ⟨fun b z hb => (n1 b z (by unfold SB at hb; omega) (by unfold SB at hb; omega)).trans (s1 b z hb), fun r r0 r1 => by rw [n1 51 r (by decide) (by decide)]; exact s2 r r0 r1, fun r r0 r1 => by rw [n1 49 r (by decide) (by decide)]; exact s3 r r0 r1, fun z hz => (n2 z hz).trans (s4 z hz), fun κ hκ => by rw [fbit_eq (B := B') (fun z => n1 67 z (by decide) (by decide))]; exact s5 κ hκ, fun r hr => (n1 51 r (by decide) (by decide)).trans (s6 r hr)⟩
      refine R_subrun (c := c) (h := h) hm hT' hGI hcd hK a0 ay y1 hD J0 J1 pw0 hBody fr4 M4 C4 ((e4 66 0 (by decide) (by decide)).trans h66) hh hroom p0 p1 (fun i i0 i1 => (e4 49 i (by decide) (by decide)).trans (hc i i0 i1)) (fun κ κ0 κ1 => ?_) (fun o r e B' hs e69 e49 => ⟨o.1, rfl, ?_⟩) (fun e B' hs e66 e49 => ⟨-1, rfl, ?_⟩)
      · rw [hza] at κ0
        rw [hzy] at κ1
        rw [b4 κ, decide_eq_true κ0, decide_eq_true κ1]
        simp
      · unfold r_asked_77
        have hr := hRg p c p0 p1 o (by rw [e]; exact List.mem_cons_self ..)
        have hAF := toAF B' hs
        have hAF2 : AF B0 B a y J q h (u2 B' 66 0 h) := AF_fr B' _ hAF (fun b z n1 n2 => u2_bank n2) (fun z _ => u2_bank (by decide))
        refine askLoop (was := B 49) (slx := slx) (B5 := u2 B' 66 0 h) hm hh (by omega) hAF2.2.2.1 (fun s s0 s1 => hC s s0 s1) (fun i i0 i1 => ?_) (fun i i0 i1 hne => ?_) (fun Bk ws n1 n2 n3 n4 n5 n6 => ?_) 20 0 (u2 B' 66 0 h) [] (by omega) (fun _ _ _ _ => rfl) (by rw [u2_same]; simp) (fun _ _ => rfl) trivial (by simp [cnt]) (by simp) (fun i i0 i1 _ => by omega)
        · rw [u2_bank (by decide), hs.2.2.2.2.2.2 trivial i]
          exact w4 i i0 i1
        · rw [u2_bank (by decide), e49 i i0 i1, hc i i0 i1] at hne
          exact (hCh p c o (by rw [e]; exact List.mem_cons_self ..) i).resolve_left hne
        · have hk3 := kS o r e Bk ws (AF_fr _ Bk hAF2 n1 n3) n2 n5 n4 (fun i i0 i1 hi => by rw [n1 49 i (by decide) (by decide)]; exact n6 i i0 i1 hi) (fun i i0 i1 => by rw [n1 49 i (by decide) (by decide), u2_bank (by decide)]; exact e49 i i0 i1)
          have g43 : Bk 43 a = kd := ((AF_fr _ Bk hAF2 n1 n3).1 43 a (by unfold SB; omega)).trans h43
          have g44 : Bk 44 a = y := ((AF_fr _ Bk hAF2 n1 n3).1 44 a (by unfold SB; omega)).trans h44
          exact askEnd (d := d + 7) hm a0 (by omega) g43 g44 hk ⟨by omega, by omega⟩ (fun hq => hk3.2 (by omega)) (fun hq => hk3.1 (by omega))
      · unfold r_asked_77
        have hAF := toAF B' hs
        refine askLoop (was := B 49) (slx := []) (B5 := B') hm hh (by omega) hAF.2.2.1 (fun s s0 s1 => hC s s0 s1) (fun i i0 i1 => ?_) (fun i i0 i1 hne => ?_) (fun Bk ws n1 n2 n3 n4 n5 n6 => ?_) 20 0 B' [] (by omega) (fun _ _ _ _ => rfl) (by rw [e66]; simp) (fun _ _ => rfl) trivial (by simp [cnt]) (by simp) (fun i i0 i1 _ => by omega)
        · rw [hs.2.2.2.2.2.2 trivial i]
          exact w4 i i0 i1
        · exact absurd ((e49 i i0 i1).trans (e4 49 i (by decide) (by decide))) hne
        · have hws : ws = [] := List.eq_nil_of_length_eq_zero (by rw [List.length_nil] at n5; omega)
          subst hws
          have hk3 := kF e Bk (AF_fr _ Bk hAF n1 n3) (by rw [n2]; simp) (fun i i0 i1 => by rw [n1 49 i (by decide) (by decide), e49 i i0 i1]; exact e4 49 i (by decide) (by decide))
          have g43 : Bk 43 a = kd := ((AF_fr _ Bk hAF n1 n3).1 43 a (by unfold SB; omega)).trans h43
          have g44 : Bk 44 a = y := ((AF_fr _ Bk hAF n1 n3).1 44 a (by unfold SB; omega)).trans h44
          refine askEnd (d := d + 7) hm a0 (by omega) g43 g44 hk ⟨by omega, by omega⟩ (fun hq => ?_) (fun hq => hk3.2 (by omega))
          have h2 : kd = 2 := by omega
          rw [if_neg (by omega)]
          exact hk3.1 h2
    | succ N ih =>
      intro k Bk hk1 e1 e2
      refine r_asked_12_ok hm ?_
      unfold r_asked_12
      refine ⟨⟨by omega, by omega⟩, fun q => by omega, fun _ => ⟨by omega, by omega, ?_⟩⟩
      have := ih (k + 1) (u2 Bk 70 k (Bk 49 k)) (by omega) (fun b z n1 => (u2_bank n1).trans (e1 b z n1)) (fun i i0 i1 => by
        by_cases e : i = k
        · rw [e, u2_same]; exact e1 49 k (by decide)
        · rw [u2_idx e]; exact e2 i i0 (by omega))
      rw [show ((k + 1 : Nat) : Int) = (k : Int) + 1 by omega] at this
      exact this
  exact L1 20 0 B (by omega) (fun _ _ _ => rfl) (fun i i0 i1 => by omega)
end ASKED
