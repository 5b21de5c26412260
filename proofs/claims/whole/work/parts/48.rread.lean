/-! THE REFERENCE READS A PATTERN: frames, brackets, the loop -/
section SB
variable {sg : Int → Int}
theorem sNum_bd : ∀ (f : Nat) (a v : Int), 0 ≤ v → a ≤ (sNum sg f a v).2 ∧ 0 ≤ (sNum sg f a v).1 := by
  intro f
  induction f with
  | zero => intro a v hv; exact ⟨Int.le_refl _, hv⟩
  | succ f ih =>
    intro a v hv
    show a ≤ (if isDg (sg a) = true then sNum sg f (a + 1) (min (10 * v + (sg a - 48)) 21) else (v, a)).2 ∧ 0 ≤ (if isDg (sg a) = true then sNum sg f (a + 1) (min (10 * v + (sg a - 48)) 21) else (v, a)).1
    by_cases hd : isDg (sg a) = true
    · rw [if_pos hd]
      unfold isDg at hd
      simp at hd
      have := ih (a + 1) (min (10 * v + (sg a - 48)) 21) (by omega)
      exact ⟨by omega, this.2⟩
    · rw [if_neg hd]
      exact ⟨Int.le_refl _, hv⟩
theorem sNm_bd {a v b : Int} (h : sNm sg a = .ok (v, b)) : a < b ∧ 0 ≤ v ∧ v ≤ 20 := by
  unfold sNm at h
  split at h
  · rename_i hd
    split at h
    · cases h; exact ⟨by omega, by decide, by decide⟩
    · split at h
      · cases h
      · rename_i h1 h2
        have e := Except.ok.inj h
        rw [e] at h2
        have hs : sNum sg 200 a 0 = sNum sg 199 (a + 1) (min (10 * 0 + (sg a - 48)) 21) := by
          show (if isDg (sg a) = true then _ else _) = _
          rw [if_pos hd]
        rw [hs] at e
        unfold isDg at hd
        simp at hd
        have := sNum_bd (sg := sg) 199 (a + 1) (min (10 * 0 + (sg a - 48)) 21) (by omega)
        rw [e] at this
        exact ⟨by have := this.1; simp only [] at this; omega, this.2, by simp only [] at h2; omega⟩
  · cases h
theorem sTl_bd {lk : Int} {e q : qT} {l h a b : Int} (hq : sTl sg lk e l h a = .ok (q, b)) : a ≤ b ∧ ∃ g, 0 ≤ g ∧ g ≤ 2 ∧ q = .mulR e (rc l h g) := by
  unfold sTl at hq
  split at hq
  · cases hq; exact ⟨by omega, 1, by decide, by decide, rfl⟩
  · split at hq
    · split at hq
      · cases hq
      · cases hq; exact ⟨by omega, 2, by decide, by decide, rfl⟩
    · cases hq; exact ⟨by omega, 0, by decide, by decide, rfl⟩
theorem sTl_wf {lk : Int} {e q : qT} {l h a b : Int} (hw : wf e) (hq : sTl sg lk e l h a = .ok (q, b)) (l0 : 0 ≤ l) (l1 : l ≤ 20) (hh : h = -1 ∨ l ≤ h) (h1 : h ≤ 20) : wf q ∧ a ≤ b ∧ ln q = ln e + 1 := by
  obtain ⟨h9, g, g0, g2, rfl⟩ := sTl_bd hq
  refine ⟨?_, h9, rfl⟩
  refine ⟨?_, ?_, ?_, ?_, ?_, ?_, hw⟩
  · rw [rc_l l0 (by omega)]; exact l0
  · rw [rc_l l0 (by omega)]; exact l1
  · rw [rc_l l0 (by omega), rc_h l0 (by omega) (by omega) (by omega)]; exact hh
  · rw [rc_h l0 (by omega) (by omega) (by omega)]; exact h1
  · rw [rc_g l0 (by omega) (by omega) (by omega)]; exact g0
  · rw [rc_g l0 (by omega) (by omega) (by omega)]; exact g2
theorem sQt_bd {lk : Int} {e q : qT} {a b : Int} (hw : wf e) (hq : sQt sg lk e a = .ok (q, b)) : wf q ∧ a ≤ b ∧ ln q ≤ ln e + (b - a) := by
  unfold sQt at hq
  split at hq
  · split at hq
    · cases hq
    · split at hq
      · split at hq
        · cases hq
        · rename_i l a1 hn
          obtain ⟨n1, n2, n3⟩ := sNm_bd hn
          split at hq
          · split at hq
            · obtain ⟨q1, q2, q3⟩ := sTl_wf hw hq n2 n3 (Or.inl rfl) (by decide)
              exact ⟨q1, by omega, by omega⟩
            · split at hq
              · cases hq
              · rename_i h' a2 hn2
                obtain ⟨k1, k2, k3⟩ := sNm_bd hn2
                split at hq
                · cases hq
                · split at hq
                  · obtain ⟨q1, q2, q3⟩ := sTl_wf hw hq n2 n3 (Or.inr (by omega)) k3
                    exact ⟨q1, by omega, by omega⟩
                  · cases hq
          · split at hq
            · obtain ⟨q1, q2, q3⟩ := sTl_wf hw hq n2 n3 (Or.inr (Int.le_refl _)) n3
              exact ⟨q1, by omega, by omega⟩
            · cases hq
      · obtain ⟨q1, q2, q3⟩ := sTl_wf hw hq (by split <;> omega) (by split <;> omega) (by split <;> split <;> omega) (by split <;> omega)
        exact ⟨q1, by omega, by omega⟩
  · cases hq
    exact ⟨hw, Int.le_refl _, by omega⟩
theorem sNm_err {a w : Int} (h : sNm sg a = .error w) : w = a := by
  unfold sNm at h
  split at h
  · split at h
    · cases h
    · split at h
      · cases h; rfl
      · cases h
  · cases h; rfl
theorem sTl_err {lk : Int} {e : qT} {l h a w : Int} (hq : sTl sg lk e l h a = .error w) : w = a ∧ sg a = 43 := by
  unfold sTl at hq
  split at hq
  · cases hq
  · split at hq
    · rename_i h43
      split at hq
      · cases hq; exact ⟨rfl, h43⟩
      · cases hq
    · cases hq
theorem sAt_bd {e : qT} {a b : Int} (hq : sAt sg a = .ok (e, b)) : wf e ∧ ln e = 1 := by
  have nm : ∀ k : Int, 1 ≤ k → k ≤ 4 → wf (.num k) ∧ ln (.num k) = 1 := fun k h1 h2 => ⟨⟨by omega, h2⟩, by unfold ln; rw [if_neg (by omega)]⟩
  have vr : ∀ s, wf (.var s) ∧ ln (.var s) = 1 := fun s => ⟨trivial, rfl⟩
  unfold sAt at hq
  split at hq
  · cases hq
  · split at hq
    · cases hq; exact nm 1 (by decide) (by decide)
    · split at hq
      · cases hq; exact nm 2 (by decide) (by decide)
      · split at hq
        · split at hq
          · cases hq; exact nm 3 (by decide) (by decide)
          · split at hq
            · cases hq; exact nm 4 (by decide) (by decide)
            · split at hq
              · cases hq
              · cases hq; exact vr _
        · split at hq
          · cases hq; exact vr _
          · split at hq
            · split at hq
              · cases hq
              · cases hq; exact vr _
            · cases hq; exact vr _
end SB
/-- the frames in memory -/
def frR (B : qB) (N M : Int) : List sF → Prop
  | [] => True
  | (hw, g, wy, rw) :: r => B 36 r.length = hw ∧ B 37 r.length = g ∧ (match wy with
    | none => B 38 r.length = -1
    | some w => nd B N M w (B 38 r.length)) ∧ nd B N M rw (B 39 r.length) ∧ frR B N M r
theorem frR_fr {B B' : qB} {N M N' M' : Int} (hN : N ≤ N') (hM : M ≤ M') : ∀ (fr : List sF), FrS (NdS N M) B B' → (∀ (b : Nat) (y : Int), 36 ≤ b → b ≤ 39 → 0 ≤ y → y < (fr.length : Int) → B' b y = B b y) → frR B N M fr → frR B' N' M' fr := by
  intro fr
  induction fr with
  | nil => intro _ _ _; trivial
  | cons f r ih =>
    obtain ⟨hw, g, wy, rw⟩ := f
    intro hf hs h
    have hl : (r.length : Int) < ((((hw, g, wy, rw) :: r : List sF).length : Nat) : Int) := by rw [List.length_cons]; omega
    obtain ⟨h1, h2, h3, h4, h5⟩ := h
    have e36 := hs 36 r.length (by decide) (by decide) (by omega) hl
    have e37 := hs 37 r.length (by decide) (by decide) (by omega) hl
    have e38 := hs 38 r.length (by decide) (by decide) (by omega) hl
    have e39 := hs 39 r.length (by decide) (by decide) (by omega) hl
    refine ⟨e36.trans h1, e37.trans h2, ?_, ?_, ih hf (fun b y q1 q2 q3 q4 => hs b y q1 q2 q3 (by rw [List.length_cons]; omega)) h5⟩
    · cases wy with
      | none => exact e38.trans h3
      | some w =>
        show nd B' N' M' w (B' 38 r.length)
        rw [e38]
        exact nd_fr0 hf hN hM _ _ h3
    · rw [e39]
      exact nd_fr0 hf hN hM _ _ h4
def lnO (w : Option qT) : Int := match w with
  | none => 0
  | some a => ln a + 1
def frL : List sF → Int
  | [] => 0
  | (_, _, wy, rw) :: r => lnO wy + ln rw + frL r
def frW : List sF → Prop
  | [] => True
  | (hw, g, wy, rw) :: r => (hw = 1 ∨ hw = 4 ∨ hw = 5 ∨ hw = 6) ∧ (hw = 4 → 1 ≤ g ∧ g ≤ 9) ∧ (hw ≠ 4 → g = 0) ∧ (match wy with
    | none => True
    | some w => wf w) ∧ wf rw ∧ frW r
theorem frL_nn : ∀ fr, 0 ≤ frL fr := by
  intro fr
  induction fr with
  | nil => exact Int.le_refl _
  | cons f r ih =>
    obtain ⟨hw, g, wy, rw⟩ := f
    show 0 ≤ lnO wy + ln rw + frL r
    have := ln_nn rw
    cases wy with
    | none => show 0 ≤ 0 + ln rw + frL r; omega
    | some w => have := ln_nn w; show 0 ≤ ln w + 1 + ln rw + frL r; omega
theorem clo_wf {wy : Option qT} {rw : qT} (h1 : match wy with | none => True | some w => wf w) (h2 : wf rw) : wf (clo wy rw) ∧ ln (clo wy rw) = lnO wy + ln rw := by
  cases wy with
  | none => exact ⟨h2, by show ln rw = 0 + ln rw; omega⟩
  | some w => exact ⟨⟨h1, h2⟩, by show ln w + ln rw + 1 = ln w + 1 + ln rw; omega⟩
theorem brk_wf {hw g : Int} {x : qT} (h : wf x) (h1 : hw = 4 → 1 ≤ g ∧ g ≤ 9) : wf (brk hw g x) ∧ ln (brk hw g x) = ln x + 1 := by
  unfold brk
  split
  · rename_i h4
    have := h1 h4
    exact ⟨⟨by omega, by omega, h⟩, rfl⟩
  · split
    · exact ⟨⟨by decide, by decide, h⟩, rfl⟩
    · split
      · exact ⟨⟨by decide, by decide, h⟩, rfl⟩
      · exact ⟨h, rfl⟩
section RREAD
variable {m : Nat} {h0 : qH} {d : Nat} {B : qB} {Q : qO → qB → Prop}
theorem bothB_28 {w l r more : Int} : bothB B w l r more 28 0 = B 28 0 + 1 := by
  unfold bothB nnB
  rw [u2_bank (by decide), u2_bank (by decide), u2_same]
theorem bothB_oth {w l r more : Int} {b : Nat} {y : Int} (h : b < 17 ∨ 25 < b) (h2 : b ≠ 28) : bothB B w l r more b y = B b y := by
  unfold bothB nnB
  rw [u2_bank (by omega), u2_bank (by omega), u2_bank (by omega), u2_bank (by omega), u2_bank (by omega), u2_bank (by omega), u2_bank (by omega), u2_bank (by omega), u2_bank (by omega), u2_bank (by omega), u2_bank (by omega)]
theorem bothB_nd {w l r more : Int} : bothB B w l r more 17 (B 28 0) = w ∧ bothB B w l r more 18 (B 28 0) = l ∧ bothB B w l r more 19 (B 28 0) = r ∧ bothB B w l r more 24 (B 28 0) = B 24 l + B 24 r + more ∧ bothB B w l r more 25 (B 28 0) = (if ¬ B 25 l = 0 ∨ ¬ B 25 r = 0 then 1 else 0) := by
  refine ⟨?_, ?_, ?_, ?_, ?_⟩ <;> simp [bothB, nnB, u2]
theorem EP_seq {a b : qT} {l r : Int} (hN : 0 ≤ B 28 0) (hf : B 35 0 = -1) (ha : nd B (B 28 0) (B 29 0) a l) (hb : nd B (B 28 0) (B 29 0) b r) : EP B (bothB B 1 l r 0) (B 28 0) (.add a b) (B 33 0) 1 0 := by
  obtain ⟨-, -, a1, a2⟩ := nd_w ha
  obtain ⟨-, -, b1, b2⟩ := nd_w hb
  obtain ⟨n1, n2, n3, n4, n5⟩ := bothB_nd (B := B) (w := 1) (l := l) (r := r) (more := 0)
  have fr : FrS (StN (B 28 0) (B 29 0)) B (bothB B 1 l r 0) := bothB_fr FrS.refl (Int.le_refl _)
  have e28 := bothB_28 (B := B) (w := 1) (l := l) (r := r) (more := 0)
  have e29 : bothB B 1 l r 0 29 0 = B 29 0 := bothB_oth (by omega) (by decide)
  refine ⟨?_, fr, bothB_oth (by omega) (by decide), (bothB_oth (by omega) (by decide)).trans hf, by omega, by omega, by omega, by omega⟩
  rw [e28, e29]
  refine ⟨hN, by omega, n1, by rw [n2]; exact nd_fr fr (by omega) (Int.le_refl _) _ _ ha, by rw [n3]; exact nd_fr fr (by omega) (Int.le_refl _) _ _ hb, ?_, ?_⟩
  · rw [n4, a1, b1]; show wR a + wR b + 0 = wR a + wR b; omega
  · rw [n5, a2, b2]; show _ = bi (aT a || aT b); rw [bi_or]
theorem EP_alt {a b : qT} {l r : Int} (hN : 0 ≤ B 28 0) (hf : B 35 0 = -1) (ha : nd B (B 28 0) (B 29 0) a l) (hb : nd B (B 28 0) (B 29 0) b r) : EP B (bothB B 2 l r 1) (B 28 0) (.sub a b) (B 33 0) 1 0 := by
  obtain ⟨-, -, a1, a2⟩ := nd_w ha
  obtain ⟨-, -, b1, b2⟩ := nd_w hb
  obtain ⟨n1, n2, n3, n4, n5⟩ := bothB_nd (B := B) (w := 2) (l := l) (r := r) (more := 1)
  have fr : FrS (StN (B 28 0) (B 29 0)) B (bothB B 2 l r 1) := bothB_fr FrS.refl (Int.le_refl _)
  have e28 := bothB_28 (B := B) (w := 2) (l := l) (r := r) (more := 1)
  have e29 : bothB B 2 l r 1 29 0 = B 29 0 := bothB_oth (by omega) (by decide)
  refine ⟨?_, fr, bothB_oth (by omega) (by decide), (bothB_oth (by omega) (by decide)).trans hf, by omega, by omega, by omega, by omega⟩
  rw [e28, e29]
  refine ⟨hN, by omega, n1, by rw [n2]; exact nd_fr fr (by omega) (Int.le_refl _) _ _ ha, by rw [n3]; exact nd_fr fr (by omega) (Int.le_refl _) _ _ hb, ?_, ?_⟩
  · rw [n4, a1, b1]; rfl
  · rw [n5, a2, b2]; show _ = bi (aT a || aT b); rw [bi_or]
theorem R_closed (hm : m + 100 < 1000000000) {f : sF} {r : List sF} (hN : 0 ≤ B 28 0) (hN2 : B 28 0 < 3000) (hf : B 35 0 = -1) (h41 : B 41 0 = r.length + 1) (hr : r.length ≤ 10) (hfr : frR B (B 28 0) (B 29 0) (f :: r)) (k : ∀ v B', EP B B' v (clo f.2.2.1 f.2.2.2) (B 33 0) 1 0 → Q (.inl (some (iv v))) B') : qZ m h0 (d + 3) k_closed 0 [some (.ref m), none] [] B Q := by
  obtain ⟨hw, g, wy, rw⟩ := f
  obtain ⟨q1, q2, q3, q4, q5⟩ := hfr
  have eo : B 41 0 - 1 = (r.length : Int) := by omega
  refine r_closed_0_ok hm ?_
  unfold r_closed_0
  rw [eo]
  obtain ⟨w1, w2, w3, w4⟩ := nd_w q4
  cases wy with
  | none =>
    have q3' : B 38 r.length = -1 := q3
    rw [q3']
    refine ⟨by omega, by omega, ⟨by decide, by decide⟩, fun q => by omega, fun _ => ?_⟩
    unfold r_closed_43
    exact k _ _ ⟨q4, FrS.refl, rfl, hf, Int.le_refl _, by omega, Int.le_refl _, by omega⟩
  | some w =>
    obtain ⟨y1, y2, y3, y4⟩ := nd_w (show nd B (B 28 0) (B 29 0) w (B 38 r.length) from q3)
    refine ⟨by omega, by omega, ⟨by omega, by omega⟩, fun _ => ?_, fun q => by omega⟩
    refine R_both hm hN hN2 y1 (by omega) w1 (by omega) (by rw [y4]; exact bi_R _) (by rw [w4]; exact bi_R _) ⟨_, rfl, ?_⟩
    unfold r_closed_43
    exact k _ _ (EP_alt hN hf q3 q4)
/-- the frames stand, nodes and sets are few -/
def FM (B : qB) (fr : List sF) : Prop := B 41 0 = fr.length ∧ frR B (B 28 0) (B 29 0) fr
theorem FM_EP {B' : qB} {v a c s : Int} {e : qT} {fr : List sF} (h : FM B fr) (hE : EP B B' v e a c s) : FM B' fr := by
  obtain ⟨h1, h2⟩ := h
  obtain ⟨g1, g2, g3, g4, g5, g6, g7, g8⟩ := hE
  exact ⟨(g2 41 0 (by unfold StN; omega)).trans h1, frR_fr g5 g7 fr (fun b y q => g2 b y (by unfold NdS at q; unfold StN; omega)) (fun b y q1 q2 _ _ => g2 b y (by unfold StN; omega)) h2⟩
theorem R_joins (hm : m + 100 < 1000000000) {hw g : Int} {wy : Option qT} {rw q : qT} {r : List sF} {x : Int} (hN : 0 ≤ B 28 0) (hN2 : B 28 0 < 3000) (hf : B 35 0 = -1) (hFM : FM B ((hw, g, wy, rw) :: r)) (hr : r.length ≤ 10) (hnd : nd B (B 28 0) (B 29 0) q x)
    (k : ∀ B', FM B' ((hw, g, wy, .add rw q) :: r) → B' 28 0 = B 28 0 + 1 → B' 29 0 = B 29 0 → (∀ b y, (b < 17 ∨ b = 26 ∨ (28 < b ∧ b < 39) ∨ 39 < b) → B' b y = B b y) → Q (.inl none) B') : qZ m h0 (d + 3) k_joins 0 [some (.ref m), some (iv x), none] [] B Q := by
  obtain ⟨h41, hfr⟩ := hFM
  have h41' : B 41 0 = r.length + 1 := by rw [h41]; simp
  obtain ⟨q1, q2, q3, q4, q5⟩ := hfr
  have eo : B 41 0 - 1 = (r.length : Int) := by omega
  obtain ⟨w1, w2, w3, w4⟩ := nd_w q4
  obtain ⟨y1, y2, y3, y4⟩ := nd_w hnd
  refine r_joins_0_ok hm ?_
  unfold r_joins_0
  rw [hf, eo]
  refine ⟨⟨by decide, by decide⟩, fun q => by omega, fun _ => ⟨by omega, by omega, ?_⟩⟩
  refine R_both hm hN hN2 w1 (by omega) y1 (by omega) (by rw [w4]; exact bi_R _) (by rw [y4]; exact bi_R _) ⟨_, rfl, ?_⟩
  unfold r_joins_32
  obtain ⟨g1, g2, g3, g4, g5, g6, g7, g8⟩ := EP_seq hN hf q4 hnd
  generalize hB1 : bothB B 1 (B 39 r.length) x 0 = B1 at g1 g2 g3 g4 g5 g6 g7 g8
  have b28 : B1 28 0 = B 28 0 + 1 := by rw [← hB1]; exact bothB_28
  have b29 : B1 29 0 = B 29 0 := by rw [← hB1]; exact bothB_oth (by omega) (by decide)
  have nS : FrS (NdS (B1 28 0) (B1 29 0)) B1 (u2 B1 39 r.length (B 28 0)) := FrS.u2 FrS.refl (by unfold NdS; omega)
  have s2 : FrS (NdS (B 28 0) (B 29 0)) B (u2 B1 39 r.length (B 28 0)) := FrS.u2 (fun b y q => g2 b y (by unfold NdS at q; unfold StN; omega)) (by unfold NdS; omega)
  have e28 : (u2 B1 39 r.length (B 28 0)) 28 0 = B1 28 0 := u2_bank (by decide)
  have e29 : (u2 B1 39 r.length (B 28 0)) 29 0 = B1 29 0 := u2_bank (by decide)
  refine ⟨by omega, by omega, k _ ⟨?_, ?_⟩ (by rw [e28, b28]) (by rw [e29, b29]) (fun b y hb => ?_)⟩
  · rw [u2_bank (by decide), g2 41 0 (by unfold StN; omega), h41]; simp
  · rw [e28, e29]
    have st : ∀ b y, 36 ≤ b → b ≤ 38 → (u2 B1 39 r.length (B 28 0)) b y = B b y := fun b y p1 p2 => by rw [u2_bank (by omega)]; exact g2 b y (by unfold StN; omega)
    refine ⟨(st 36 _ (by decide) (by decide)).trans q1, (st 37 _ (by decide) (by decide)).trans q2, ?_, ?_, ?_⟩
    · cases wy with
      | none => exact (st 38 _ (by decide) (by decide)).trans q3
      | some w =>
        show nd _ _ _ w ((u2 B1 39 r.length (B 28 0)) 38 r.length)
        rw [st 38 _ (by decide) (by decide)]
        exact nd_fr0 s2 (by omega) (by omega) _ _ q3
    · rw [u2_same]
      exact nd_fr0 nS (Int.le_refl _) (Int.le_refl _) _ _ g1
    · refine frR_fr (by omega) (by omega) r s2 (fun b y p1 p2 p3 p4 => ?_) q5
      rw [u2_idx (by omega)]
      exact g2 b y (by unfold StN; omega)
  · rw [u2_bank (by omega), ← hB1]
    exact bothB_oth (by omega) (by omega)
theorem R_opens (hm : m + 100 < 1000000000) {hw g wh : Int} {fr : List sF} (hN : 0 ≤ B 28 0) (hN2 : B 28 0 < 3000) (hFM : FM B fr) (hr : fr.length ≤ 10)
    (k : ∀ B', FM B' ((hw, g, none, .num 0) :: fr) → B' 28 0 = B 28 0 + 1 → B' 29 0 = B 29 0 → (∀ b y, (b < 17 ∨ b = 26 ∨ (28 < b ∧ b < 36) ∨ 41 < b) → B' b y = B b y) → Q (.inl none) B') : qZ m h0 (d + 2) k_opens 0 [some (.ref m), some (iv hw), some (iv g), some (iv wh)] [] B Q := by
  obtain ⟨h41, hfr⟩ := hFM
  refine r_opens_0_ok hm ?_
  unfold r_opens_0
  refine ⟨by omega, by omega, ?_⟩
  generalize ho : B 41 0 = o at *
  generalize hB1 : u2 (u2 (u2 B 36 o hw) 37 o g) 38 o (-1) = B1
  have b28 : B1 28 0 = B 28 0 := by rw [← hB1, u2_bank (by decide), u2_bank (by decide), u2_bank (by decide)]
  have b29 : B1 29 0 = B 29 0 := by rw [← hB1, u2_bank (by decide), u2_bank (by decide), u2_bank (by decide)]
  have b41 : B1 41 0 = o := by rw [← hB1, u2_bank (by decide), u2_bank (by decide), u2_bank (by decide), ho]
  refine R_newNode hm (by omega) (by omega) ⟨_, rfl, ?_⟩
  rw [b28]
  generalize hB2 : nnB B1 11 0 0 = B2
  have c28 : B2 28 0 = B 28 0 + 1 := by rw [← hB2]; unfold nnB; rw [u2_same, b28]
  have cO : ∀ b y, (b < 17 ∨ 25 < b) → b ≠ 28 → B2 b y = B1 b y := by
    intro b y p1 p2
    rw [← hB2]
    unfold nnB
    rw [u2_bank (by omega), u2_bank (by omega), u2_bank (by omega), u2_bank (by omega), u2_bank (by omega), u2_bank (by omega), u2_bank (by omega), u2_bank (by omega), u2_bank (by omega)]
  have c29 : B2 29 0 = B 29 0 := (cO 29 0 (by omega) (by decide)).trans b29
  have c41 : B2 41 0 = o := (cO 41 0 (by omega) (by decide)).trans b41
  have c17 : B2 17 (B 28 0) = 11 := by rw [← hB2, ← b28]; simp [nnB, u2]
  have c24 : B2 24 (B 28 0) = 0 := by rw [← hB2, ← b28]; simp [nnB, u2]
  have c25 : B2 25 (B 28 0) = 0 := by rw [← hB2, ← b28]; simp [nnB, u2]
  have s2 : FrS (NdS (B 28 0) (B 29 0)) B B2 := by
    have f1 : FrS (StN (B1 28 0) (B1 29 0)) B1 B2 := by rw [← hB2]; exact nnB_fr FrS.refl (Int.le_refl _)
    intro b y q
    rw [f1 b y (by rw [b28, b29]; unfold NdS at q; unfold StN; omega), ← hB1, u2_bank (by unfold NdS at q; omega), u2_bank (by unfold NdS at q; omega), u2_bank (by unfold NdS at q; omega)]
  unfold r_opens_46
  rw [c41]
  refine ⟨by omega, by omega, by omega, by omega, k _ ⟨?_, ?_⟩ ?_ ?_ (fun b y hb => ?_)⟩
  · rw [u2_same]; simp; omega
  · have s3 : FrS (NdS (B 28 0) (B 29 0)) B (u2 (u2 (u2 B2 39 o (B 28 0)) 40 o wh) 41 0 (o + 1)) := FrS.u2 (FrS.u2 (FrS.u2 s2 (by unfold NdS; omega)) (by unfold NdS; omega)) (by unfold NdS; omega)
    have e28 : (u2 (u2 (u2 B2 39 o (B 28 0)) 40 o wh) 41 0 (o + 1)) 28 0 = B 28 0 + 1 := by rw [u2_bank (by decide), u2_bank (by decide), u2_bank (by decide), c28]
    have e29 : (u2 (u2 (u2 B2 39 o (B 28 0)) 40 o wh) 41 0 (o + 1)) 29 0 = B 29 0 := by rw [u2_bank (by decide), u2_bank (by decide), u2_bank (by decide), c29]
    rw [e28, e29]
    refine ⟨?_, ?_, ?_, ?_, ?_⟩
    · rw [← h41, u2_bank (by decide), u2_bank (by decide), u2_bank (by decide), cO 36 o (by omega) (by decide), ← hB1, u2_bank (by decide), u2_bank (by decide), u2_same]
    · rw [← h41, u2_bank (by decide), u2_bank (by decide), u2_bank (by decide), cO 37 o (by omega) (by decide), ← hB1, u2_bank (by decide), u2_same]
    · show (u2 (u2 (u2 B2 39 o (B 28 0)) 40 o wh) 41 0 (o + 1)) 38 fr.length = -1
      rw [← h41, u2_bank (by decide), u2_bank (by decide), u2_bank (by decide), cO 38 o (by omega) (by decide), ← hB1, u2_same]
    · rw [← h41, u2_bank (by decide), u2_bank (by decide), u2_same]
      refine ⟨hN, by omega, ?_, ?_, ?_⟩
      · rw [u2_bank (by decide), u2_bank (by decide), u2_bank (by decide), c17]; rfl
      · rw [u2_bank (by decide), u2_bank (by decide), u2_bank (by decide), c24]; rfl
      · rw [u2_bank (by decide), u2_bank (by decide), u2_bank (by decide), c25]
    · refine frR_fr (by omega) (Int.le_refl _) fr s3 (fun b y p1 p2 p3 p4 => ?_) hfr
      rw [u2_bank (by omega), u2_bank (by omega), u2_idx (by omega), cO b y (by omega) (by omega), ← hB1, u2_idx (by omega), u2_idx (by omega), u2_idx (by omega)]
  · rw [u2_bank (by decide), u2_bank (by decide), u2_bank (by decide), c28]
  · rw [u2_bank (by decide), u2_bank (by decide), u2_bank (by decide), c29]
  · rw [u2_bank (by omega), u2_bank (by omega), u2_bank (by omega), cO b y (by omega) (by omega), ← hB1, u2_bank (by omega), u2_bank (by omega), u2_bank (by omega)]
end RREAD
