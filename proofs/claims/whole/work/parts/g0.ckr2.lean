/-! THE CLASS'S CALLS: replace, the whole -/
section KR2
variable {h1 : qH} {d : Nat} {Q : qO → qB → Prop} {C C' B B' : qB} {c0 s0 : Int} {src t a : Nat} {n rn : Int} {tx ty rd : Int → Int} {e : qT} {P : qP} {H : Int → Nat → Option Bool}
theorem fst_out {f : Int} (h : n < f) : fstM n tx e 0 (n + 1 - f).toNat f = none := by
  rw [show (n + 1 - f).toNat = 0 by omega]
  rfl
theorem L_repl {fd : Nat} {C0 : qB} (hd : 40 ≤ d) (hT : TrO e) (hL : Ly P H 1 (P 0 7) e 0 0 (P 0 9) 0 0 0) (hK : KYs n P (spc e * (n + 1)).toNat) (h9 : C0 a 9 = P 0 9) (ha : a < 75) (hn : 0 ≤ n ∧ n ≤ 300) (oT : ob 1 t) (ht : t < 83) (hX : BY C0 t n tx) (hfd : ob 3 fd ∧ (fd = 108 ∨ fd = 110)) (hf0 : C0 0 11 = ((fd : Nat) : Int)) (htx : ∀ q, 0 ≤ q → q < n → tx q = ty q) (oM : ob 1 src) (hsr : src = 84 ∨ src = 86) (hM : BY C0 src rn rd) (hrn : rn ≤ 1200) (hrd : ∀ i, 0 ≤ i → i < rn → 0 ≤ rd i ∧ rd i < 256) (hv : vld rd rn 1201 0 = none) {L : List (Int × (Int × qCp))} {W : List Int}
    (wN : 1000 < (W.length : Int) → ∀ C', SH C' → DI c0 s0 C' → FrR fd C0 C' → bOK C' 88 → Q (.inl (some (iv 0))) C')
    (wY : (W.length : Int) ≤ 1000 → ∀ C', SH C' → DI c0 s0 C' → FrR fd C0 C' → BY C' 88 W.length (wi W) → C' fd 1 = L.length → (∀ i : Int, 0 ≤ i → i < L.length → C' (fd + 1) (2 * i) = bgn L i ∧ C' (fd + 1) (2 * i + 1) = edn L i) → Q (.inl (some (iv 1))) C') : ∀ (N : Nat) (k fm bh : Int) (l : List (Int × (Int × qCp))) (w : List Int) (C : qB), (301 - k).toNat < N → 0 ≤ k → k ≤ 301 → k = l.length → k ≤ fm → fm ≤ n + 1 → 0 ≤ bh → bh ≤ fm → bh ≤ n → WI c0 s0 a t n 0 P H ty (spc e * (n + 1)).toNat C → RSn n 0 P H ty (spc e * (n + 1)).toNat (2 * (znb e + 2)) C → FrR fd C0 C → C fd 1 = k → (∀ i, 0 ≤ i → i < k → C (fd + 1) (2 * i) = bgn l i ∧ C (fd + 1) (2 * i + 1) = edn l i) → OT C w 1 → L = l ++ allM n tx e (1002 - k).toNat fm → W = w ++ rpl n tx e rd rn (1002 - k).toNat fm bh → qY h1 (d + 1) n_P_writeReplaced 37 [some (.ref 0), none, some (.ref t), some (.ref src), some (iv 1), some (iv bh), some (iv fm), some (iv k)] [] C Q := by
  intro N
  induction N with
  | zero => intro k fm bh l w C h; exact absurd h (Nat.not_lt_zero _)
  | succ N ih =>
    intro k fm bh l w C hN k0 k1 hl hkf hfn bh0 bhf bhn hW hR hF hk hr hO hLl hWl
    have e11 : (C 0 11).toNat = fd := by rw [hF.1 0 11 (by omega), hf0]; omega
    have hnt : C t 1 = n := hW.2.2.1.2.2.2.2.1
    have hbl := bl_or oT
    -- no more matches
    have done : allM n tx e (1002 - k).toNat fm = [] → rpl n tx e rd rn (1002 - k).toNat fm bh = sgm tx (n - bh).toNat bh → ∀ C', SH C' → DI c0 s0 C' → FrR fd C0 C' → C' fd 1 = k → (∀ i, 0 ≤ i → i < k → C' (fd + 1) (2 * i) = bgn l i ∧ C' (fd + 1) (2 * i + 1) = edn l i) → OT C' w 1 → c_P_writeReplaced_151 h1 d t 1 bh C' Q := by
      intro q1 q2 C' s1 s2 s3 s4 s5 s6
      rw [q1, List.append_nil] at hLl
      rw [q2] at hWl
      have hX' : BY C' t n tx := hX.fr (s3.1 _ _ (by omega)) (fun i => s3.1 _ _ (by omega))
      unfold c_P_writeReplaced_151
      rw [hX'.1]
      refine ⟨⟨by decide, by decide⟩, fun q => absurd q (by decide), fun _ => ?_⟩
      refine K_part2 (by omega) s1 oT ht hX' s6 ⟨by omega, bhn⟩ ⟨by omega, Int.le_refl _⟩ (fun C3 v t1 t2 t3 => ⟨v, rfl, t1, ?_⟩)
      rw [if_neg (by omega), ← hWl] at t3
      have F3 : FrR fd C0 C3 := ⟨fun b x q => by rw [t2 b x (by omega) (by omega)]; exact s3.1 b x q, fun x => by rw [t2 _ x (by decide) (by decide)]; exact s3.2 x⟩
      have D3 : DI c0 s0 C3 := DI_lo s2 (fun b x q _ => t2 b x (by omega) (by omega))
      have hv := t3.ok.1
      unfold c_P_writeReplaced_170
      refine ⟨⟨by omega, by omega⟩, fun z => ?_, fun z => ?_⟩
      · subst z
        have : 1000 < (W.length : Int) := by
          by_cases q : (W.length : Int) ≤ 1000
          · exact absurd (t3.1 q).1 (by decide)
          · omega
        exact wN this C3 t1 D3 F3 t3.ok.2
      · have : v = 1 := by omega
        subst this
        subst hLl
        exact wY t3.one.1 C3 t1 D3 F3 t3.one.2 (by rw [t2 _ _ (by omega) (by omega), s4]; exact hl) (fun i i0 i1 => by rw [t2 _ _ (by omega) (by omega), t2 _ _ (by omega) (by omega)]; exact s5 i i0 (by omega))
    refine c_P_writeReplaced_37_ok (by omega) hW.1 oT oM ?_
    unfold c_P_writeReplaced_37
    rw [hnt]
    refine ⟨⟨by omega, by omega⟩, fun q => done (allM_nil (by omega)) (rpl_none (fst_out (by omega))) C hW.1 hW.2.1 hF hk hr hO, fun q => ⟨⟨by decide, by decide⟩, fun z => absurd z (by decide), fun _ => ?_⟩⟩
    refine R_tryPlaces (e := e) (by omega) hT hL hK (by rw [hF.1 _ _ (by omega)]; exact h9) ⟨by omega, by omega⟩ ⟨by omega, Int.le_refl _⟩ hW hR (fun b o rest b0 b1 hb hw C2 W2 F2 R2 M2 => ?_) (fun hno C2 W2 F2 M2 => ?_)
    · have g2 : ∀ b x, b < 102 ∨ (108 ≤ b ∧ b < 112) → C2 b x = C b x := fun b x q => F2.1 b x (by omega) (by omega) (by omega) (by omega) (by omega) (by omega)
      have mk := MKs_grp M2
      have gr := grp_cr (n := n) (tx := ty) (b := b) (by omega) b1 hw
      have m0 : C2 107 0 = b := by rw [mk 0 (by decide) (by decide)]; unfold grp; rw [if_pos rfl]
      have m1 : C2 107 1 = o.1 := by rw [mk 1 (by decide) (by decide)]; unfold grp; rw [if_neg (by decide), if_pos rfl]
      have hs : fstM n tx e 0 (n + 1 - fm).toNat fm = some (b, o) := fst_some htx _ _ b o rest (by omega) b0 b1 hb hw (by omega)
      have hbd := fstM_bd _ fm (by omega) b o hs
      have e11' : (C2 0 11).toNat = fd := by rw [g2 0 11 (by omega)]; exact e11
      have hk2 : C2 fd 1 = k := by rw [g2 _ _ (by omega)]; exact hk
      have hnx : fm < (if o.1 = b then o.1 + 1 else o.1) ∧ (if o.1 = b then o.1 + 1 else o.1) ≤ n + 1 ∧ o.1 ≤ (if o.1 = b then o.1 + 1 else o.1) := by split <;> omega
      refine ⟨1, rfl, W2.1, ?_⟩
      unfold c_P_writeReplaced_63
      rw [e11', hk2, m0, m1, fo_fr 107 0 (by omega) (by omega), m0]
      refine ⟨⟨by decide, by decide⟩, fun q => absurd q (by decide), fun _ => ⟨hfd.1, k0, by omega, ?_⟩⟩
      have hS3 : SH (foC C2 fd b o.1) := S_Fo_add W2.1 hfd.1 (by rw [hk2]; omega) (by rw [hk2]; omega)
      obtain ⟨x1, x2⟩ := fo_at (C := C2) (x := b) (y := o.1) (r := (b, o)) hk2 hl (fun i i0 i1 => by rw [g2 _ _ (by omega), g2 _ _ (by omega)]; exact hr i i0 i1) rfl rfl
      have f3 : ∀ b' x', b' ≠ fd → b' ≠ fd + 1 → foC C2 fd b o.1 b' x' = C2 b' x' := fun b' x' q1 q2 => fo_fr b' x' q1 q2
      revert hS3 x1 x2 f3
      generalize foC C2 fd b o.1 = C3
      intro hS3 x1 x2 f3
      have hX3 : BY C3 t n tx := hX.fr (by rw [f3 _ _ (by omega) (by omega), g2 _ _ (by omega)]; exact hF.1 _ _ (by omega)) (fun i => by rw [f3 _ _ (by omega) (by omega), g2 _ _ (by omega)]; exact hF.1 _ _ (by omega))
      have hM3 : BY C3 src rn rd := hM.fr (by rw [f3 _ _ (by omega) (by omega), g2 _ _ (by omega)]; exact hF.1 _ _ (by omega)) (fun i => by rw [f3 _ _ (by omega) (by omega), g2 _ _ (by omega)]; exact hF.1 _ _ (by omega))
      have hO3 : OT C3 w 1 := hO.fr (fun b x q => by rw [f3 _ _ (by omega) (by omega), g2 _ _ (by omega)])
      have mk3 : ∀ i, 0 ≤ i → i < 20 → C3 107 i = grp b o i := fun i i0 i1 => by rw [f3 _ _ (by omega) (by omega)]; exact mk i i0 i1
      -- all later states
      have step : ∀ C4, SH C4 → (∀ b z, b ≠ 88 → b ≠ 89 → C4 b z = C3 b z) → WI c0 s0 a t n 0 P H ty (spc e * (n + 1)).toNat C4 ∧ RSn n 0 P H ty (spc e * (n + 1)).toNat (2 * (znb e + 2)) C4 ∧ FrR fd C0 C4 ∧ C4 107 0 = b ∧ C4 107 1 = o.1 ∧ plB C4 = (if o.1 = b then o.1 + 1 else o.1) := by
        intro C4 s4 f4
        obtain ⟨W4, r4⟩ := WI_lo (C' := C4) W2 s4 ht (fun b x q => by rw [f4 b x (by omega) (by omega)]; exact f3 b x (by omega) (by omega))
        have m0' : C4 107 0 = b := by rw [f4 _ _ (by decide) (by decide), f3 _ _ (by omega) (by omega)]; exact m0
        have m1' : C4 107 1 = o.1 := by rw [f4 _ _ (by decide) (by decide), f3 _ _ (by omega) (by omega)]; exact m1
        exact ⟨W4, RSn_same R2 r4, ⟨fun b x q => by rw [f4 b x (by omega) (by omega), f3 b x (by omega) (by omega), g2 b x (by omega)]; exact hF.1 b x q, fun x => by rw [f4 _ x (by decide) (by decide), f3 _ x (by omega) (by omega), F2.2 x]; exact hF.2 x⟩, m0', m1', pl_nx m0' m1' hbd.2.2.1⟩
      have eW : W = w ++ (sgm tx (b - bh).toNat bh ++ (sbs tx rd rn (grp b o) 1201 0 ++ rpl n tx e rd rn ((1002 - k).toNat - 1) (if o.1 = b then o.1 + 1 else o.1) o.1)) := by
        rw [hWl, rpl_some (by omega) hs]
      -- it does not fit
      have bad : ∀ C4, SH C4 → (∀ b z, b ≠ 88 → b ≠ 89 → C4 b z = C3 b z) → bOK C4 88 → 1000 < (W.length : Int) → c_P_writeReplaced_123 h1 d t src k C4 Q := by
        intro C4 s4 f4 o4 hlen
        obtain ⟨W4, R4, F4, m0', m1', ep⟩ := step C4 s4 f4
        unfold c_P_writeReplaced_123 c_P_writeReplaced_124
        rw [m0', m1', ep]
        refine ⟨⟨by omega, by omega⟩, ⟨by omega, by omega⟩, ?_⟩
        refine c_P_writeReplaced_37_ok (by omega) s4 oT oM ?_
        have e151 : c_P_writeReplaced_151 h1 d t 0 o.1 C4 Q := by
          unfold c_P_writeReplaced_151
          exact ⟨⟨by decide, by decide⟩, fun _ => wN hlen C4 s4 W4.2.1 F4 o4, fun q => absurd rfl q⟩
        unfold c_P_writeReplaced_37
        exact ⟨⟨by omega, by omega⟩, fun _ => e151, fun _ => ⟨⟨by decide, by decide⟩, fun _ => e151, fun q => absurd rfl q⟩⟩
      refine K_part2 (by omega) hS3 oT ht hX3 hO3 ⟨by omega, bhn⟩ ⟨by omega, b1⟩ (fun C4 v s4 f4 o4 => ⟨v, rfl, s4, ?_⟩)
      rw [if_neg (by omega)] at o4
      have hv4 := o4.ok.1
      unfold c_P_writeReplaced_107
      refine ⟨⟨by omega, by omega⟩, fun z => ?_, fun z => ?_⟩
      · subst z
        refine bad C4 s4 f4 o4.ok.2 ?_
        have : 1000 < ((w ++ sgm tx (b - bh).toNat bh).length : Int) := by
          by_cases q : ((w ++ sgm tx (b - bh).toNat bh).length : Int) ≤ 1000
          · exact absurd (o4.1 q).1 (by decide)
          · omega
        rw [eW, ← List.append_assoc, List.length_append]
        omega
      · have : v = 1 := by omega
        subst this
        refine K_model (g := grp b o) (by omega) s4 oT ht (hX3.fr (f4 _ _ (by omega) (by omega)) (fun i => f4 _ _ (by omega) (by omega))) oM hsr (hM3.fr (f4 _ _ (by omega) (by omega)) (fun i => f4 _ _ (by omega) (by omega))) hrn hrd hv o4 (fun i i0 i1 => by rw [f4 _ _ (by decide) (by decide)]; exact mk3 i i0 i1) gr (fun C5 v s5 f5 o5 => ⟨v, rfl, s5, ?_⟩)
        have f5' : ∀ b z, b ≠ 88 → b ≠ 89 → C5 b z = C3 b z := fun b z q1 q2 => by rw [f5 b z q1 q2]; exact f4 b z q1 q2
        have hv5 := o5.ok.1
        unfold c_P_writeReplaced_116
        refine ⟨⟨by omega, by omega⟩, fun z => ?_, fun z => ?_⟩
        · subst z
          refine bad C5 s5 f5' o5.ok.2 ?_
          have : 1000 < ((w ++ sgm tx (b - bh).toNat bh ++ sbs tx rd rn (grp b o) 1201 0).length : Int) := by
            by_cases q : ((w ++ sgm tx (b - bh).toNat bh ++ sbs tx rd rn (grp b o) 1201 0).length : Int) ≤ 1000
            · exact absurd (o5.1 q).1 (by decide)
            · omega
          rw [eW, ← List.append_assoc, ← List.append_assoc, List.length_append]
          omega
        · have : v = 1 := by omega
          subst this
          obtain ⟨W5, R5, F5, m0', m1', ep⟩ := step C5 s5 f5'
          unfold c_P_writeReplaced_124
          rw [m0', m1', ep]
          refine ⟨⟨by omega, by omega⟩, ⟨by omega, by omega⟩, ?_⟩
          refine ih (k + 1) _ o.1 (l ++ [(b, o)]) _ C5 (by omega) (by omega) (by omega) (by simp; exact hl) (by omega) hnx.2.1 (by omega) hnx.2.2 hbd.2.2.2 W5 R5 F5 (by rw [f5' _ _ (by omega) (by omega)]; exact x1) (fun i i0 i1 => by rw [f5' _ _ (by omega) (by omega), f5' _ _ (by omega) (by omega)]; exact x2 i i0 i1) o5 ?_ ?_
          · rw [hLl, allM_some (by omega) hs, List.append_assoc, show (1002 - k).toNat - 1 = (1002 - (k + 1)).toNat by omega]
            rfl
          · rw [eW, show (1002 - k).toNat - 1 = (1002 - (k + 1)).toNat by omega, List.append_assoc, List.append_assoc]
    · have g2 : ∀ b x, b < 102 ∨ (108 ≤ b ∧ b < 112) → C2 b x = C b x := fun b x q => F2.1 b x (by omega) (by omega) (by omega) (by omega) (by omega) (by omega)
      have hno' := fst_none (tx := tx) (e := e) htx (n + 1 - fm).toNat fm (by omega) hno
      refine ⟨0, rfl, W2.1, ?_⟩
      unfold c_P_writeReplaced_63
      exact ⟨⟨by decide, by decide⟩, fun _ => done (allM_none hno') (rpl_none hno') C2 W2.1 W2.2.1 ⟨fun b x q => by rw [g2 b x (by omega)]; exact hF.1 b x q, fun x => by rw [F2.2 x]; exact hF.2 x⟩ (by rw [g2 _ _ (by omega)]; exact hk) (fun i i0 i1 => by rw [g2 _ _ (by omega), g2 _ _ (by omega)]; exact hr i i0 i1) (hO.fr (fun b x q => g2 _ _ (by omega))), fun q => absurd rfl q⟩
end KR2
