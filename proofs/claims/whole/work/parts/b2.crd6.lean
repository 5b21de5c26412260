/-! THE CLASS'S READER: brackets, parts, rows, ways -/
/-- an atom: no rounds, no row -/
def atm : qT → Bool
  | .mulR _ _ => false
  | .add _ _ => false
  | .sub _ _ => false
  | _ => true
theorem RS_94 {sg : Int → Int} {B0 B : qB} {s x : Int} (h : RS sg B0 B) (s0 : 0 ≤ s) : RS sg B0 (u2 B 94 s x) := by
  have h0 := h
  obtain ⟨g1, g2, g3, g4, g5, g6, g7, g8, g9, g10, g11, g12⟩ := h
  have o1 : ∀ y, (u2 B 94 s x) 100 y = B 100 y := fun y => u2_bank (by decide)
  have o2 : (u2 B 94 s x) 98 1 = B 98 1 := u2_bank (by decide)
  exact RS.mk' h0 (SH_u2 g1 s0) (fun b y q => u2_bank (by omega)) (o1 1) (by rw [o1, o2]; exact g7.2) (by rw [o1]; exact g2.2.2.2) (by rw [u2_bank (by decide)]; exact g6) (by rw [o2]; exact g7.1) (fun y y0 y1 => by rw [u2_bank (by decide)]; exact g8 y y0 y1) (by rw [o1]; exact g9) (by rw [o1, o1]; exact g10) (by rw [o1]; exact g11) (by rw [o1]; exact g12)
/-- ways have been read, node v -/
def WO (sg : Int → Int) (B0 B B' : qB) (x : qT) (v : Int) : Prop := GP sg B0 2 B B' ∧ xnd B' (B' 90 8) v 13 ∧ Nd B' (B' 98 1) x v 1 (B' 93 v) ∧ B 90 8 ≤ v ∧ B' 97 v = min (wR x) 401 ∧ (B' 100 7 = B 100 7 ↔ aT x = false) ∧ wf x ∧ (∀ s, x = .add (.num 0) (.var s) → (B' 91 (B' 93 (B' 93 v)) = 2 ↔ sKS sg (B 100 2)))
/-- a row has been read, node v -/
def RO (sg : Int → Int) (B0 B B' : qB) (x : qT) (v : Int) : Prop := GP sg B0 1 B B' ∧ xnd B' (B' 90 8) v 12 ∧ B' 94 v = 0 ∧ Nd B' (B' 98 1) x v 0 (B' 93 v) ∧ B 90 8 ≤ v ∧ B' 97 v = min (wR x) 401 ∧ (B' 100 7 = B 100 7 ↔ aT x = false) ∧ wf x ∧ (∀ s, x = .add (.num 0) (.var s) → (B' 91 (B' 93 v) = 2 ↔ sKS sg (B 100 2)))
theorem brk_nv (hw g : Int) (x : qT) (s : Nat) : brk hw g x ≠ .var s := by
  unfold brk
  split
  · intro w; cases w
  · split
    · intro w; cases w
    · split
      · intro w; cases w
      · intro w; cases w
def Start (sg : Int → Int) (B0 B : qB) : Prop := RS sg B0 B ∧ B 100 3 = -1 ∧ B 100 2 ≤ 200 ∧ B 90 8 ≤ 1 + 2 * B 100 2
def WySpec (h1 : qH) (sg : Int → Int) (B0 : qB) (d : Nat) (l : Nat) : Prop := ∀ (B : qB) (Q : qO → qB → Prop) (hw g : Int) (r : List sF), Start sg B0 B → r.length = l →
  (∀ B' v wy rw, WO sg B0 B B' (clo wy rw) v → sGo sg (B 100 2, B 100 5, B 100 6, (hw, g, none, .num 0) :: r) (B' 100 2, B' 100 5, B' 100 6, (hw, g, wy, rw) :: r) → (sg (B' 100 2) = -1 ∨ sg (B' 100 2) = 41) → Q (.inl (some (iv v))) B') →
  (∀ B' v w, BP sg B0 l B B' w → 0 ≤ v → v < 408 → sBad sg (B 100 2, B 100 5, B 100 6, (hw, g, none, .num 0) :: r) w → Q (.inl (some (iv v))) B') →
  qY h1 d n_Re_readWays 0 [some (.ref 100), some (iv (l : Int)), none, none, none, none] [] B Q
section CRD6
variable {h1 : qH} {d : Nat} {Q : qO → qB → Prop} {sg : Int → Int} {B0 B : qB}
theorem GP_100 {B' : qB} (h : RS sg B0 B') (h3 : B' 100 3 = -1) (h6 : B' 100 6 = B 100 6) (a0 : B 100 2 ≤ B' 100 2) (a1 : B' 100 2 ≤ 200) (f : ∀ b x, b ≠ 100 → B' b x = B b x) (h7 : B 100 7 ≤ B' 100 7) : GP sg B0 0 B B' :=
  ⟨h, h3, h6, a0, a1, by rw [f 90 8 (by decide)]; exact Int.le_refl _, by rw [f 90 8 (by decide)]; omega, fun b x b0 b1 _ _ => f b x (by omega), by rw [f 98 1 (by decide)]; exact Int.le_refl _, fun x _ _ => f 99 x (by decide), h7⟩
theorem R_readBracket {l : Nat} {hw g : Int} {wy : Option qT} {rw : qT} {r : List sF} (hd : 5 ≤ d) (hst : Start sg B0 B) (hr : r.length = l) (hl : l ≤ 10) (hW : l < 10 → ∀ d', d ≤ d' + 1 → WySpec h1 sg B0 d' (l + 1)) (hat : sg (B 100 2) = 40)
    (kG : ∀ B' v e, XO sg B0 B B' e v → AP sg (B 100 2) (B 100 5) (B 100 6) hw g wy rw r e (B' 100 2) (B' 100 5) → wf e → atm e = true → Q (.inl (some (iv v))) B')
    (kB : ∀ B' v w, BP sg B0 l B B' w → 0 ≤ v → v < 408 → sBad sg (B 100 2, B 100 5, B 100 6, (hw, g, wy, rw) :: r) w → Q (.inl (some (iv v))) B') : qY h1 d n_Re_readBracket 0 [some (.ref 100), some (iv (l : Int)), none, none, none, none, none] [] B Q := by
  obtain ⟨d, rfl, he⟩ := d_pos hd
  obtain ⟨h, h3, hA, hsz⟩ := hst
  have A0 := h.2.1.2.2.1
  have a9 := (h.lt (i := B 100 2) (by omega)).1
  have K7 := h.2.2.2.2.2.2.2.2.2.1
  have G5 := h.2.2.2.2.2.2.2.2.2.2.1
  have O6 := h.2.2.2.2.2.2.2.2.2.2.2
  have S8 := h.2.2.2.2.2.1
  have M8 := h.2.2.2.2.2.2.1
  -- the step of the '('
  have st : sStep sg (B 100 2, B 100 5, B 100 6, (hw, g, wy, rw) :: r) = sBr sg (B 100 2) (B 100 5) (B 100 6) ((hw, g, wy, rw) :: r) := by
    show (if sg (B 100 2) = 124 then _ else if sg (B 100 2) = 40 then _ else _) = _
    rw [if_neg (by omega), if_pos hat]
  have flen : ((hw, g, wy, rw) :: r).length = l + 1 := by rw [List.length_cons, hr]
  have ebad : ∀ w, sBr sg (B 100 2) (B 100 5) (B 100 6) ((hw, g, wy, rw) :: r) = .error w → sBad sg (B 100 2, B 100 5, B 100 6, (hw, g, wy, rw) :: r) w := fun w hw' => Or.inl (sErr_step (by show sg (B 100 2) ≠ -1; omega) (st.trans hw'))
  -- broken at once
  have k93B : ∀ (w x2 x3 : Int), B 100 2 ≤ w → w ≤ B 100 2 + 2 → sBr sg (B 100 2) (B 100 5) (B 100 6) ((hw, g, wy, rw) :: r) = .error w → c_Re_readBracket_93 h1 d l x2 x3 (brC B w) Q := by
    intro w x2 x3 w0 w1 hE
    have R := RS_br (z := w) h (by omega) (by omega)
    have e3 : brC B w 100 3 = w := by rw [brC_3, if_pos h3]
    refine ⟨R.R3, fun q => ?_, fun _ => kB _ 0 w ⟨R, e3, by omega, brC_at _ _ _ (by decide), by rw [brC_at _ _ _ (by decide)]; omega⟩ (by decide) (by decide) (ebad w hE)⟩
    have := bi_z.mp q
    rw [decide_eq_true (show ¬ brC B w 100 3 = -1 by omega)] at this
    cases this
  -- what is in the bracket
  have kIn : ∀ (x2 x3 n1 n5 n7 n6 hw1 g1 : Int), (x3 = 0 ∨ x3 = 1) → (x2 = 9 ∨ x2 = 10 ∨ x2 = 7 ∨ x2 = 8) → l < 10 → B 100 2 + n1 ≤ 200 → 1 ≤ n1 → (n7 = x3) → (n6 = x3) → (n5 = if x2 = 9 then 1 else 0) → B 100 5 + n5 ≤ 9 → B 100 6 + n6 ≤ 1 → sBr sg (B 100 2) (B 100 5) (B 100 6) ((hw, g, wy, rw) :: r) = .ok (B 100 2 + n1, B 100 5 + n5, B 100 6 + n6, (hw1, g1, none, .num 0) :: (hw, g, wy, rw) :: r) → (if hw1 = 5 ∨ hw1 = 6 then B 100 6 + n6 - 1 else B 100 6 + n6) = B 100 6 → (∀ x, wf x → wf (brk hw1 g1 x) ∧ atm (brk hw1 g1 x) = true ∧ wR (brk hw1 g1 x) = wR x + (if x2 = 9 then 2 else 1) ∧ aT (brk hw1 g1 x) = (aT x || decide (x3 = 1)) ∧ (∀ (B' : qB) M N q w, xnd B' N q x2 → (x2 = 9 → B' 92 q = B 100 5 + 1) → xnd B' q w 13 → B' 93 q = w → Nd B' M x w 1 (B' 93 w) → Nd B' M (brk hw1 g1 x) N 2 q)) → c_Re_readBracket_180 h1 d l x2 x3 (B 100 5 + n5) (B 100 6) n6 (u2 (u2 (u2 B 100 2 (B 100 2 + n1)) 100 5 (B 100 5 + n5)) 100 7 (B 100 7 + n7)) Q := by
    intro x2 x3 n1 n5 n7 n6 hw1 g1 hx3 hx2 hl10 n1a n1b e7 e6 e5 b5 b6 hBr hlk hbk
    have n50 : 0 ≤ n5 := by rw [e5]; split <;> omega
    have R1 := RS_at (z := B 100 2 + n1) h (by omega) (by omega)
    have R2 : RS sg B0 (u2 (u2 B 100 2 (B 100 2 + n1)) 100 5 (B 100 5 + n5)) := RS_f R1 (by omega) (fun w => absurd w (by decide)) (fun w => absurd w (by decide)) (fun _ => by omega) (fun w => absurd w (by decide)) (fun w => absurd w (by decide))
    have R3 : RS sg B0 (u2 (u2 (u2 B 100 2 (B 100 2 + n1)) 100 5 (B 100 5 + n5)) 100 7 (B 100 7 + n7)) := RS_f R2 (by omega) (fun w => absurd w (by decide)) (fun w => absurd w (by decide)) (fun w => absurd w (by decide)) (fun w => absurd w (by decide)) (fun _ => by rw [u2_idx (by decide), u2_same]; omega)
    have R4 : RS sg B0 (u2 (u2 (u2 (u2 B 100 2 (B 100 2 + n1)) 100 5 (B 100 5 + n5)) 100 7 (B 100 7 + n7)) 100 6 (B 100 6 + n6)) := RS_f R3 (by omega) (fun w => absurd w (by decide)) (fun w => absurd w (by decide)) (fun w => absurd w (by decide)) (fun _ => by omega) (fun w => absurd w (by decide))
    unfold c_Re_readBracket_180
    have f4 : ∀ b x, b ≠ 100 → (u2 (u2 (u2 (u2 B 100 2 (B 100 2 + n1)) 100 5 (B 100 5 + n5)) 100 7 (B 100 7 + n7)) 100 6 (B 100 6 + n6)) b x = B b x := fun b x q => by rw [u2_bank q, u2_bank q, u2_bank q, u2_bank q]
    have c2 : (u2 (u2 (u2 (u2 B 100 2 (B 100 2 + n1)) 100 5 (B 100 5 + n5)) 100 7 (B 100 7 + n7)) 100 6 (B 100 6 + n6)) 100 2 = B 100 2 + n1 := by rw [u2_idx (by decide), u2_idx (by decide), u2_idx (by decide), u2_same]
    have c3 : (u2 (u2 (u2 (u2 B 100 2 (B 100 2 + n1)) 100 5 (B 100 5 + n5)) 100 7 (B 100 7 + n7)) 100 6 (B 100 6 + n6)) 100 3 = -1 := by rw [u2_idx (by decide), u2_idx (by decide), u2_idx (by decide), u2_idx (by decide)]; exact h3
    have c5 : (u2 (u2 (u2 (u2 B 100 2 (B 100 2 + n1)) 100 5 (B 100 5 + n5)) 100 7 (B 100 7 + n7)) 100 6 (B 100 6 + n6)) 100 5 = B 100 5 + n5 := by rw [u2_idx (by decide), u2_idx (by decide), u2_same]
    have c6 : (u2 (u2 (u2 (u2 B 100 2 (B 100 2 + n1)) 100 5 (B 100 5 + n5)) 100 7 (B 100 7 + n7)) 100 6 (B 100 6 + n6)) 100 6 = B 100 6 + n6 := u2_same
    have c7 : (u2 (u2 (u2 (u2 B 100 2 (B 100 2 + n1)) 100 5 (B 100 5 + n5)) 100 7 (B 100 7 + n7)) 100 6 (B 100 6 + n6)) 100 7 = B 100 7 + n7 := by rw [u2_idx (by decide), u2_same]
    generalize u2 (u2 (u2 (u2 B 100 2 (B 100 2 + n1)) 100 5 (B 100 5 + n5)) 100 7 (B 100 7 + n7)) 100 6 (B 100 6 + n6) = B4 at R4 f4 c2 c3 c5 c6 c7
    have z4 : B4 90 8 = B 90 8 := f4 90 8 (by decide)
    have go1 : sGo sg (B 100 2, B 100 5, B 100 6, (hw, g, wy, rw) :: r) (B 100 2 + n1, B 100 5 + n5, B 100 6 + n6, (hw1, g1, none, .num 0) :: (hw, g, wy, rw) :: r) := sGo_step (by show sg (B 100 2) ≠ -1; omega) (st.trans hBr)
    rw [← c2, ← c5, ← c6] at go1
    have hsp := hW hl10 d (Nat.le_refl _) B4 (fun o B' => ∃ v : Int, o = .inl (some (iv v)) ∧ SH B' ∧ c_Re_readBracket_191 h1 d x2 x3 (B 100 5 + n5) v B' Q) hw1 g1 ((hw, g, wy, rw) :: r) ⟨R4, c3, by omega, by omega⟩ flen
    refine hsp (fun B5 v wy1 rw1 hWO hgo hend => ⟨v, rfl, hWO.1.1.1, ?_⟩) (fun B5 v w hBP v0 v1 hbad => ⟨v, rfl, hBP.1.1, ?_⟩)
    · -- it was read
      obtain ⟨hGP, hv13, hNd, hvN, hvw, hvk, hvwf, -⟩ := hWO
      obtain ⟨p1, p2, p3, p4, p5, p6, p7, p8, p9, p10, p11⟩ := hGP
      have hbk := hbk (clo wy1 rw1) hvwf
      have v0 := hv13.1
      have v1 := hv13.2.1
      have S5 := p1.2.2.2.2.2.1
      have w5 := p1.2.2.2.2.2.2.2.1 v (by omega) (by omega)
      have cX : ∀ s2, s2 = x3 → c_Re_readBracket_207 h1 d x2 (B 100 5 + n5) v (B5 100 6) s2 B5 Q := by
        intro s2 es2
        have e6' : B5 100 6 - s2 = B 100 6 := by rw [p3, c6]; omega
        have R6 : RS sg B0 (u2 B5 100 6 (B5 100 6 - s2)) := RS_f p1 (by omega) (fun w => absurd w (by decide)) (fun w => absurd w (by decide)) (fun w => absurd w (by decide)) (fun _ => by omega) (fun w => absurd w (by decide))
        have f6 : ∀ b x, ¬ (b = 100 ∧ x = 6) → (u2 B5 100 6 (B5 100 6 - s2)) b x = B5 b x := fun b x q => by
          by_cases hb : b = 100
          · subst hb; exact u2_idx (by omega)
          · exact u2_bank hb
        have d6 : (u2 B5 100 6 (B5 100 6 - s2)) 100 6 = B 100 6 := by rw [u2_same]; exact e6'
        unfold c_Re_readBracket_207
        generalize u2 B5 100 6 (B5 100 6 - s2) = B6 at R6 f6 d6
        have d2 : B6 100 2 = B5 100 2 := f6 100 2 (by omega)
        have d3 : B6 100 3 = -1 := by rw [f6 100 3 (by omega)]; exact p2
        rw [R6.2.2.1, Int.add_zero, d2]
        refine ⟨R6.2.1, R6.R _, fun q => ?_, fun q => ⟨R6.R3, ?_⟩⟩
        · -- closed
          have l5 := (h.lt (i := B5 100 2) (by omega)).1
          have R7 := RS_at (z := B6 100 2 + 1) R6 (by omega) (by omega)
          have f7 : ∀ b x, ¬ (b = 100 ∧ (x = 2 ∨ x = 6)) → (u2 B6 100 2 (B6 100 2 + 1)) b x = B5 b x := fun b x q => by
            by_cases hb : b = 100
            · subst hb; rw [u2_idx (by omega)]; exact f6 100 x (by omega)
            · rw [u2_bank hb]; exact f6 b x (by omega)
          have g2 : (u2 B6 100 2 (B6 100 2 + 1)) 100 2 = B5 100 2 + 1 := by rw [u2_same, d2]
          have g6 : (u2 B6 100 2 (B6 100 2 + 1)) 100 6 = B 100 6 := by rw [u2_idx (by decide)]; exact d6
          unfold c_Re_readBracket_229
          generalize u2 B6 100 2 (B6 100 2 + 1) = B7 at R7 f7 g2 g6
          have z7 : B7 90 8 = B5 90 8 := f7 90 8 (by omega)
          have w7 : B7 97 v = min (wR (clo wy1 rw1)) 401 := by rw [f7 97 v (by omega)]; exact hvw
          have wn := (wR_bd _ hvwf).1
          have hlt : B7 90 8 < 408 := by omega
          have av : adV B7 = B5 90 8 := by unfold adV; rw [if_pos hlt, z7]
          have fin : ∀ wt, wt = B7 97 v + (if x2 = 9 then 2 else 1) → Q (.inl (some (iv (adV B7)))) (adT B7 x2 (B 100 5 + n5) v wt) := by
            intro wt ewt
            have n := adT_n (B := B7) (k := x2) (v := B 100 5 + n5) (i := v) (z := wt) hlt
            rw [z7] at n
            rw [av]
            have o1 : ∀ x, adT B7 x2 (B 100 5 + n5) v wt 100 x = B7 100 x := fun x => adT_o 100 x (by omega) (by omega)
            have oo : ∀ b x, 91 ≤ b → b ≤ 97 → x < B5 90 8 → adT B7 x2 (B 100 5 + n5) v wt b x = B5 b x := fun b x b0 b1 x1 => by rw [adT_o b x (by omega) (by omega)]; exact f7 b x (by omega)
            have o99 : ∀ x, adT B7 x2 (B 100 5 + n5) v wt 99 x = B5 99 x := fun x => by rw [adT_o 99 x (by omega) (by omega)]; exact f7 99 x (by omega)
            have o98 : adT B7 x2 (B 100 5 + n5) v wt 98 1 = B5 98 1 := by rw [adT_o 98 1 (by omega) (by omega)]; exact f7 98 1 (by omega)
            have R8 : RS sg B0 (adT B7 x2 (B 100 5 + n5) v wt) := RS_ad R7 (by rw [ewt, w7]; split <;> omega) ⟨by rw [ewt, w7]; split <;> omega, by rw [ewt, w7]; split <;> omega⟩
            have k7 : B7 100 7 = B5 100 7 := f7 100 7 (by omega)
            refine kG _ _ (brk hw1 g1 (clo wy1 rw1)) ⟨⟨R8, by rw [o1, f7 100 3 (by omega)]; exact p2, by rw [o1]; exact g6, by rw [o1]; omega, by rw [o1]; omega, by rw [n.1]; omega, by rw [n.1, o1]; omega, fun b x b0 b1 x0 x1 => ?_, by rw [o98]; have := f4 98 1 (by decide); omega, fun x x0 x1 => ?_, by rw [o1]; omega⟩, ?_, by omega, ?_, ?_, by rw [o1]; omega, fun s hs => absurd hs (brk_nv _ _ _ _)⟩ ⟨fun q9 b hq => ?_, fun w hq => ?_⟩ hbk.1 hbk.2.1
            · rw [oo b x b0 b1 (by omega), p8 b x b0 b1 x0 (by omega)]; exact f4 b x (by omega)
            · have := f4 98 1 (by decide)
              rw [o99, p10 x x0 (by omega)]; exact f4 99 x (by decide)
            · rw [n.1]
              refine hbk.2.2.2.2 _ _ _ _ v ⟨by omega, by omega, n.2.1⟩ (fun e9 => by rw [n.2.2.1, e5, if_pos e9]) ⟨v0, v1, by rw [oo 91 v (by decide) (by decide) v1]; exact hv13.2.2⟩ n.2.2.2.1 ?_
              rw [oo 93 v (by decide) (by decide) v1, o98]
              exact Nd_fr (fun x _ _ => o99 x) (Int.le_refl _) _ _ _ _ _ hNd (fun b x b0 b1 x0 x1 => oo b x b0 (by omega) (by omega)) (Int.le_refl _)
            · rw [n.2.2.2.2.2, ewt, w7, hbk.2.2.1]
              split <;> omega
            · rw [o1, k7, hbk.2.2.2.1]
              constructor
              · intro hk
                have e0 : x3 = 0 := by omega
                rw [decide_eq_false (by omega), Bool.or_false]
                exact hvk.mp (by omega)
              · intro hk
                have hk' := Bool.or_eq_false_iff.mp hk
                have e0 : ¬ x3 = 1 := of_decide_eq_false hk'.2
                have := hvk.mpr hk'.1
                omega
            · -- what stands behind
              refine go1.tr (hgo.tr (sGo_step (by show sg (B5 100 2) ≠ -1; omega) ?_))
              show (if sg (B5 100 2) = 124 then _ else if sg (B5 100 2) = 40 then _ else if sg (B5 100 2) = 41 then _ else _) = _
              rw [if_neg (by omega), if_neg (by omega), if_pos q, o1, f7 100 5 (by omega)]
              show (match sQt sg (if hw1 = 5 ∨ hw1 = 6 then B5 100 6 - 1 else B5 100 6) (brk hw1 g1 (clo wy1 rw1)) (B5 100 2 + 1) with | .error w => _ | .ok (q, a) => _) = _
              rw [p3, c6, hlk]
              rw [o1, g2] at hq
              rw [hq]
            · refine (sErr_step ?_ ?_).go (go1.tr hgo)
              · show sg (B5 100 2) ≠ -1; omega
              · show (if sg (B5 100 2) = 124 then _ else if sg (B5 100 2) = 40 then _ else if sg (B5 100 2) = 41 then _ else _) = _
                rw [if_neg (by omega), if_neg (by omega), if_pos q]
                show (match sQt sg (if hw1 = 5 ∨ hw1 = 6 then B5 100 6 - 1 else B5 100 6) (brk hw1 g1 (clo wy1 rw1)) (B5 100 2 + 1) with | .error w => _ | .ok (q, a) => _) = _
                rw [p3, c6, hlk]
                rw [o1, g2] at hq
                rw [hq]
          exact ⟨by omega, by omega, ⟨by omega, by omega⟩, fun e9 => ⟨by omega, by omega, ⟨by rw [w7]; omega, by rw [w7]; omega⟩, fin _ (by rw [if_neg e9])⟩, fun e9 => ⟨by omega, by omega, ⟨by rw [w7]; omega, by rw [w7]; omega⟩, fin _ (by rw [if_pos e9])⟩⟩
        · -- not closed
          have hend' : sg (B5 100 2) = -1 := hend.resolve_right q
          have R7 := RS_br (z := B5 100 2) R6 (by omega) (by omega)
          have e3 : brC B6 (B5 100 2) 100 3 = B5 100 2 := by rw [brC_3, if_pos d3]
          have e2 : brC B6 (B5 100 2) 100 2 = B5 100 2 := by rw [brC_at _ _ _ (by decide)]; exact d2
          have e6b : brC B6 (B5 100 2) 100 6 = B 100 6 := by rw [brC_at _ _ _ (by decide)]; exact d6
          unfold c_Re_readBracket_229
          rw [e2]
          have R8 := RS_at (z := B5 100 2 + 1) R7 (by omega) (by omega)
          have S8' := R8.2.2.2.2.2.1
          have w8 := R8.2.2.2.2.2.2.2.1 v (by omega) (by omega)
          have hbad : sBad sg (B 100 2, B 100 5, B 100 6, (hw, g, wy, rw) :: r) (B5 100 2) := Or.inr ⟨_, go1.tr hgo, hend', by simp, rfl⟩
          have fin : ∀ wt, 0 ≤ wt → wt ≤ 1000 → Q (.inl (some (iv (adV (u2 (brC B6 (B5 100 2)) 100 2 (B5 100 2 + 1)))))) (adT (u2 (brC B6 (B5 100 2)) 100 2 (B5 100 2 + 1)) x2 (B 100 5 + n5) v wt) := by
            intro wt t0 t1
            have o1 : ∀ x, adT (u2 (brC B6 (B5 100 2)) 100 2 (B5 100 2 + 1)) x2 (B 100 5 + n5) v wt 100 x = (u2 (brC B6 (B5 100 2)) 100 2 (B5 100 2 + 1)) 100 x := fun x => adT_o 100 x (by omega) (by omega)
            refine kB _ _ (B5 100 2) ⟨RS_ad R8 t0 ⟨by omega, by omega⟩, by rw [o1, u2_idx (by decide)]; exact e3, by omega, by rw [o1, u2_idx (by decide)]; exact e6b, by rw [o1, u2_same]; omega⟩ ?_ ?_ hbad
            · unfold adV; split <;> omega
            · unfold adV; split <;> omega
          exact ⟨by omega, by omega, ⟨by omega, by omega⟩, fun _ => ⟨S8'.1, S8'.2, ⟨by omega, by omega⟩, fin _ (by omega) (by omega)⟩, fun _ => ⟨S8'.1, S8'.2, ⟨by omega, by omega⟩, fin _ (by omega) (by omega)⟩⟩
      refine ⟨⟨by omega, by omega⟩, fun q => cX 0 (by omega), fun q => cX 1 (by omega)⟩
    · -- it was broken
      obtain ⟨q1, q2, q3, q4, q5⟩ := hBP
      have hb2 : sBad sg (B 100 2, B 100 5, B 100 6, (hw, g, wy, rw) :: r) w := hbad.go go1
      have AA := q1.2.1.2.2.1
      have O5 := q1.2.2.2.2.2.2.2.2.2.2.2
      have cX : ∀ s2, s2 = x3 → c_Re_readBracket_207 h1 d x2 (B 100 5 + n5) v (B5 100 6) s2 B5 Q := by
        intro s2 es2
        have e6' : B5 100 6 - s2 = B 100 6 := by rw [q4, c6]; omega
        have R6 : RS sg B0 (u2 B5 100 6 (B5 100 6 - s2)) := RS_f q1 (by omega) (fun w => absurd w (by decide)) (fun w => absurd w (by decide)) (fun w => absurd w (by decide)) (fun _ => by omega) (fun w => absurd w (by decide))
        have d6 : (u2 B5 100 6 (B5 100 6 - s2)) 100 6 = B 100 6 := by rw [u2_same]; exact e6'
        have d3 : (u2 B5 100 6 (B5 100 6 - s2)) 100 3 = w := by rw [u2_idx (by decide)]; exact q2
        have d2 : (u2 B5 100 6 (B5 100 6 - s2)) 100 2 = B5 100 2 := u2_idx (by decide)
        unfold c_Re_readBracket_207
        generalize u2 B5 100 6 (B5 100 6 - s2) = B6 at R6 d6 d3 d2
        have k229 : ∀ B7, RS sg B0 B7 → B7 100 3 = w → B7 100 6 = B 100 6 → B7 100 2 = B5 100 2 → c_Re_readBracket_229 h1 d x2 (B 100 5 + n5) v B7 Q := by
          intro B7 r1 r2 r3 r4
          unfold c_Re_readBracket_229
          have R8 := RS_at (z := B7 100 2 + 1) r1 (by omega) (by omega)
          have S8' := R8.2.2.2.2.2.1
          have w8 := R8.2.2.2.2.2.2.2.1 v v0 v1
          have fin : ∀ wt, 0 ≤ wt → wt ≤ 1000 → Q (.inl (some (iv (adV (u2 B7 100 2 (B7 100 2 + 1)))))) (adT (u2 B7 100 2 (B7 100 2 + 1)) x2 (B 100 5 + n5) v wt) := by
            intro wt t0 t1
            have o1 : ∀ x, adT (u2 B7 100 2 (B7 100 2 + 1)) x2 (B 100 5 + n5) v wt 100 x = (u2 B7 100 2 (B7 100 2 + 1)) 100 x := fun x => adT_o 100 x (by omega) (by omega)
            refine kB _ _ w ⟨RS_ad R8 t0 ⟨by omega, by omega⟩, by rw [o1, u2_idx (by decide)]; exact r2, q3, by rw [o1, u2_idx (by decide)]; exact r3, by rw [o1, u2_same]; push_cast at q5; omega⟩ ?_ ?_ hb2
            · unfold adV; split <;> omega
            · unfold adV; split <;> omega
          exact ⟨v0, v1, ⟨by omega, by omega⟩, fun _ => ⟨S8'.1, S8'.2, ⟨by omega, by omega⟩, fin _ (by omega) (by omega)⟩, fun _ => ⟨S8'.1, S8'.2, ⟨by omega, by omega⟩, fin _ (by omega) (by omega)⟩⟩
        rw [R6.2.2.1]
        refine ⟨R6.2.1, R6.R _, fun q => k229 B6 R6 d3 d6 d2, fun q => ⟨R6.R3, k229 _ (RS_br R6 (by omega) (by push_cast at q5; omega)) (by rw [brC_3, if_neg (by omega)]; exact d3) (by rw [brC_at _ _ _ (by decide)]; exact d6) (by rw [brC_at _ _ _ (by decide)]; exact d2)⟩⟩
      refine ⟨⟨by omega, by omega⟩, fun q => cX 0 (by omega), fun q => cX 1 (by omega)⟩
  -- which bracket
  refine y_wk (c_Re_readBracket_0_ok (by omega) h.1 ?_) ⟨rfl, rfl, trivial⟩
  have bk : bkV B = if sg (B 100 2 + 1) = 63 then (if sg (B 100 2 + 2) = 58 then 10 else if sg (B 100 2 + 2) = 61 then 7 else if sg (B 100 2 + 2) = 33 then 8 else -1) else 9 := by
    unfold bkV
    rw [h.2.2.1, h.2.2.1]
  have t3 : bi (decide (¬ B 100 3 = -1)) = 0 := by rw [decide_eq_false (fun w => w h3)]; rfl
  have brL : l = 10 → sBr sg (B 100 2) (B 100 5) (B 100 6) ((hw, g, wy, rw) :: r) = .error (B 100 2) := fun e => by
    unfold sBr
    rw [if_pos (by rw [flen]; omega)]
  have brN : l < 10 → sBr sg (B 100 2) (B 100 5) (B 100 6) ((hw, g, wy, rw) :: r) = if sg (B 100 2 + 1) = 63 then (if sg (B 100 2 + 2) = 58 then .ok (B 100 2 + 3, B 100 5, B 100 6, (1, 0, none, .num 0) :: (hw, g, wy, rw) :: r) else if sg (B 100 2 + 2) = 61 ∨ sg (B 100 2 + 2) = 33 then (if B 100 6 > 0 then .error (B 100 2) else .ok (B 100 2 + 3, B 100 5, B 100 6 + 1, ((if sg (B 100 2 + 2) = 61 then 5 else 6), 0, none, .num 0) :: (hw, g, wy, rw) :: r)) else .error (B 100 2 + 2)) else if B 100 5 = 9 then .error (B 100 2) else .ok (B 100 2 + 1, B 100 5 + 1, B 100 6, (4, B 100 5 + 1, none, .num 0) :: (hw, g, wy, rw) :: r) := fun e => by
    unfold sBr
    rw [if_neg (by rw [flen]; omega)]
  have k93 : ∀ x2 x3, (∀ n1, (n1 = if x2 = 9 then 1 else 3) → c_Re_readBracket_118 h1 d l x2 x3 (B 100 2) n1 B Q) → R32 x2 → c_Re_readBracket_93 h1 d l x2 x3 B Q := fun x2 x3 k hx => ⟨h.R3, fun _ => ⟨hx, fun q => k 3 (by rw [if_neg q]), fun q => k 1 (by rw [if_pos q])⟩, fun q => absurd t3 q⟩
  have k67 : ∀ x2 x3, sBr sg (B 100 2) (B 100 5) (B 100 6) ((hw, g, wy, rw) :: r) = .error (B 100 2) → c_Re_readBracket_67 h1 d l x2 x3 B Q := fun x2 x3 hE => ⟨h.R3, k93B _ _ _ (Int.le_refl _) (by omega) hE⟩
  have e1007 : ∀ (a : Int), (u2 B 100 2 a) 100 7 = B 100 7 := fun a => u2_idx (by decide)
  have e1006 : ∀ (a b : Int), (u2 (u2 B 100 2 a) 100 5 b) 100 6 = B 100 6 := fun a b => by rw [u2_idx (by decide), u2_idx (by decide)]
  by_cases hq1 : sg (B 100 2 + 1) = 63
  · rw [if_pos hq1] at bk
    by_cases hq2 : sg (B 100 2 + 2) = 58
    · -- (?:
      rw [if_pos hq2] at bk
      unfold c_Re_readBracket_0
      rw [bk]
      have l2 := (h.lt (i := B 100 2 + 2) (by omega)).1
      have k78 : l < 10 → c_Re_readBracket_78 h1 d l 10 0 B Q := fun hl10 => by
        refine ⟨⟨by decide, by decide⟩, fun _ => k93 10 0 (fun n1 e1 => ?_) ⟨by decide, by decide⟩, fun q => absurd q (by decide)⟩
        rw [if_neg (by decide)] at e1
        subst e1
        refine ⟨⟨by decide, by decide⟩, fun _ => ?_, fun q => absurd q (by decide)⟩
        refine ⟨⟨by decide, by decide⟩, fun _ => ?_, fun q => absurd rfl q⟩
        rw [e1007]
        refine ⟨⟨by decide, by decide⟩, fun _ => ?_, fun q => absurd rfl q⟩
        rw [e1006]
        have hB := brN hl10
        rw [if_pos hq1, if_pos hq2] at hB
        refine kIn 10 0 3 0 0 0 1 0 (by decide) (by decide) hl10 (by omega) (by decide) rfl rfl rfl (by omega) (by omega) (by rw [hB, Int.add_zero, Int.add_zero]) (by rw [if_neg (by decide)]; omega) (fun x hx => ⟨hx, rfl, rfl, ?_, fun B' M N q w a1 _ a3 a4 a5 => ?_⟩)
        · show aT x = _
          rw [decide_eq_false (by decide), Bool.or_false]
        · subst a4
          exact ⟨rfl, a1, a3, a5⟩
      have k43 : ∀ s0, s0 = 0 → c_Re_readBracket_43 h1 d l 10 0 s0 B Q := fun s0 e0 => by
        subst e0
        refine ⟨⟨by omega, by omega⟩, fun q => k67 _ _ (brL (by omega)), fun q => ⟨⟨by decide, by decide⟩, fun q2 => absurd rfl q2, fun _ => ⟨⟨by decide, by decide⟩, fun _ => k78 (by omega), fun q2 => absurd rfl q2⟩⟩⟩
      exact ⟨h.2.1, ⟨by decide, by decide⟩, fun q => absurd q (by decide), fun _ => ⟨fun _ => ⟨⟨by decide, by decide⟩, fun _ => k43 0 rfl, fun q => absurd q (by decide)⟩, fun q => absurd q (by decide)⟩⟩
    · rw [if_neg hq2] at bk
      by_cases hq3 : sg (B 100 2 + 2) = 61 ∨ sg (B 100 2 + 2) = 33
      · -- lookaheads
        have l2 := (h.lt (i := B 100 2 + 2) (by omega)).1
        have hk : ∃ k hw1, (k = 7 ∨ k = 8) ∧ bkV B = k ∧ (if sg (B 100 2 + 2) = 61 then (5 : Int) else 6) = hw1 ∧ (k = 7 ∧ hw1 = 5 ∨ k = 8 ∧ hw1 = 6) := by
          by_cases hq4 : sg (B 100 2 + 2) = 61
          · rw [if_pos hq4] at bk ⊢; exact ⟨7, 5, by omega, bk, rfl, by omega⟩
          · rw [if_neg hq4, if_pos (by omega)] at bk; rw [if_neg hq4]; exact ⟨8, 6, by omega, bk, rfl, by omega⟩
        obtain ⟨k, hw1, k78', bk', ehw, khw⟩ := hk
        unfold c_Re_readBracket_0
        rw [bk']
        have kR : R32 k := ⟨by omega, by omega⟩
        have kGo : l < 10 → B 100 6 ≤ 0 → c_Re_readBracket_78 h1 d l k 1 B Q := fun hl10 hlk => by
          refine ⟨kR, fun _ => k93 k 1 (fun n1 e1 => ?_) kR, fun q => absurd q (by omega)⟩
          rw [if_neg (by omega)] at e1
          subst e1
          refine ⟨kR, fun _ => ?_, fun q => absurd q (by omega)⟩
          refine ⟨⟨by decide, by decide⟩, fun q => absurd q (by decide), fun _ => ?_⟩
          rw [e1007]
          refine ⟨⟨by decide, by decide⟩, fun q => absurd q (by decide), fun _ => ?_⟩
          rw [e1006]
          have hB := brN hl10
          rw [if_pos hq1, if_neg hq2, if_pos hq3, if_neg (by omega), ehw] at hB
          refine kIn k 1 3 0 1 1 hw1 0 (by decide) (by omega) hl10 (by omega) (by decide) rfl rfl (by rw [if_neg (by omega)]) (by omega) (by omega) (by rw [hB, Int.add_zero]) (by rw [if_pos (by omega)]; omega) (fun x hx => ?_)
          rcases khw with ⟨rfl, rfl⟩ | ⟨rfl, rfl⟩
          · refine ⟨⟨by decide, by decide, hx⟩, rfl, rfl, ?_, fun B' M N q w a1 _ a3 a4 a5 => ?_⟩
            · show (aT x || decide ((0 : Int) ≤ 0)) = _
              rfl
            · subst a4
              exact ⟨rfl, a1, fun q => absurd q (by decide), a3, a5⟩
          · refine ⟨⟨by decide, by decide, hx⟩, rfl, rfl, ?_, fun B' M N q w a1 _ a3 a4 a5 => ?_⟩
            · show (aT x || decide ((-1 : Int) ≤ 0)) = _
              rfl
            · subst a4
              exact ⟨rfl, a1, fun q => absurd q (by decide), a3, a5⟩
        have kEr : l < 10 → B 100 6 > 0 → sBr sg (B 100 2) (B 100 5) (B 100 6) ((hw, g, wy, rw) :: r) = .error (B 100 2) := fun hl10 hlk => by
          rw [brN hl10, if_pos hq1, if_neg hq2, if_pos hq3, if_pos hlk]
        have k43 : ∀ s0, s0 = 0 → c_Re_readBracket_43 h1 d l k 1 s0 B Q := fun s0 e0 => by
          subst e0
          refine ⟨⟨by omega, by omega⟩, fun q => k67 _ _ (brL (by omega)), fun q => ⟨⟨by decide, by decide⟩, fun q2 => absurd rfl q2, fun _ => ⟨⟨by decide, by decide⟩, fun q2 => absurd q2 (by decide), fun _ => ⟨⟨by omega, by omega⟩, fun q3 => kGo (by omega) q3, fun q3 => k67 _ _ (kEr (by omega) q3)⟩⟩⟩⟩
        have k22 : c_Re_readBracket_22 h1 d l k 1 B Q := ⟨kR, fun _ => k43 0 rfl, fun q => absurd q (by omega)⟩
        exact ⟨h.2.1, kR, fun _ => k22, fun _ => ⟨fun q => absurd q (by omega), fun _ => k22⟩⟩
      · -- no bracket
        rw [if_neg (by omega), if_neg (by omega)] at bk
        unfold c_Re_readBracket_0
        rw [bk]
        have k78 : l < 10 → c_Re_readBracket_78 h1 d l (-1) 0 B Q := fun hl10 => by
          refine ⟨⟨by decide, by decide⟩, fun q => absurd rfl q, fun _ => ⟨h.R3, k93B _ _ _ (by omega) (by omega) ?_⟩⟩
          rw [brN hl10, if_pos hq1, if_neg hq2, if_neg hq3]
        have k43 : ∀ s0, s0 = 0 → c_Re_readBracket_43 h1 d l (-1) 0 s0 B Q := fun s0 e0 => by
          subst e0
          refine ⟨⟨by omega, by omega⟩, fun q => k67 _ _ (brL (by omega)), fun q => ⟨⟨by decide, by decide⟩, fun q2 => absurd rfl q2, fun _ => ⟨⟨by decide, by decide⟩, fun _ => k78 (by omega), fun q2 => absurd rfl q2⟩⟩⟩
        exact ⟨h.2.1, ⟨by decide, by decide⟩, fun q => absurd q (by decide), fun _ => ⟨fun _ => ⟨⟨by decide, by decide⟩, fun _ => k43 0 rfl, fun q => absurd q (by decide)⟩, fun q => absurd q (by decide)⟩⟩
  · -- a group
    rw [if_neg hq1] at bk
    unfold c_Re_readBracket_0
    rw [bk]
    have k78 : l < 10 → B 100 5 < 9 → c_Re_readBracket_78 h1 d l 9 0 B Q := fun hl10 hgr => by
      refine ⟨⟨by decide, by decide⟩, fun _ => k93 9 0 (fun n1 e1 => ?_) ⟨by decide, by decide⟩, fun q => absurd q (by decide)⟩
      rw [if_pos rfl] at e1
      subst e1
      refine ⟨⟨by decide, by decide⟩, fun q => absurd rfl q, fun _ => ?_⟩
      refine ⟨⟨by decide, by decide⟩, fun _ => ?_, fun q => absurd rfl q⟩
      rw [e1007]
      refine ⟨⟨by decide, by decide⟩, fun _ => ?_, fun q => absurd rfl q⟩
      rw [e1006]
      have hB := brN hl10
      rw [if_neg hq1, if_neg (by omega)] at hB
      refine kIn 9 0 1 1 0 0 4 (B 100 5 + 1) (by decide) (by decide) hl10 (by omega) (by decide) rfl rfl rfl (by omega) (by omega) (by rw [hB, Int.add_zero]) (by rw [if_neg (by decide)]; omega) (fun x hx => ⟨⟨by omega, by omega, hx⟩, rfl, ?_, ?_, fun B' M N q w a1 a2 a3 a4 a5 => ?_⟩)
      · show wR x + (if 1 ≤ B 100 5 + 1 then 2 else 1) = _
        rw [if_pos (by omega)]; rfl
      · show (aT x || decide (B 100 5 + 1 ≤ 0)) = _
        rw [decide_eq_false (by omega)]; rfl
      · subst a4
        exact ⟨rfl, by rw [if_pos (by omega)]; exact a1, fun _ => a2 rfl, a3, a5⟩
    have k43 : ∀ s0, s0 = (if B 100 5 < 9 then 0 else 1) → c_Re_readBracket_43 h1 d l 9 0 s0 B Q := fun s0 e0 => by
      refine ⟨⟨by omega, by omega⟩, fun q => k67 _ _ (brL (by omega)), fun q => ⟨⟨by rw [e0]; split <;> decide, by rw [e0]; split <;> decide⟩, fun q2 => k67 _ _ ?_, fun q2 => ⟨⟨by decide, by decide⟩, fun _ => k78 (by omega) ?_, fun q2 => absurd rfl q2⟩⟩⟩
      · rw [brN (by omega), if_neg hq1, if_pos ?_]
        by_cases hh : B 100 5 < 9
        · rw [if_pos hh] at e0; exact absurd e0 q2
        · omega
      · by_cases hh : B 100 5 < 9
        · exact hh
        · rw [if_neg hh] at e0; omega
    have k22 : c_Re_readBracket_22 h1 d l 9 0 B Q := ⟨⟨by decide, by decide⟩, fun q => absurd rfl q, fun _ => ⟨⟨by omega, by omega⟩, fun q => k43 0 (by rw [if_pos q]), fun q => k43 1 (by rw [if_neg (by omega)])⟩⟩
    exact ⟨h.2.1, ⟨by decide, by decide⟩, fun q => absurd q (by decide), fun _ => ⟨fun _ => k22, fun q => absurd q (by decide)⟩⟩
end CRD6
