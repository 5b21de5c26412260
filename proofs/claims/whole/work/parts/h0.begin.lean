/-! THE LAW'S START: the heap, and that the loop begins well -/
def bgS (L : Nat) (xs : Nat → Int32) : Nat → Option qE := fun i => q_spe ((0, 0), (L, xs)) i
def hS (L : Nat) (xs : Nat → Int32) : qH := dI (bgS L xs) (dA ++ dB ++ [dC], 2733406)
set_option maxRecDepth 100000 in
theorem len_A : dA.length = 112 := by decide +kernel
set_option maxRecDepth 100000 in
theorem len_B : dB.length = 47 := by decide +kernel
theorem len_AB : (dA ++ dB).length = 159 := by rw [List.length_append, len_A, len_B]
theorem len_S : (dA ++ dB ++ [dC]).length = 160 := by rw [List.length_append, len_AB]; rfl
theorem dI_hi {bg : Nat → Option qE} {D : dH} {i : Nat} (h : D.1.length ≤ i) : (dI bg D).1 i = bg i := by
  show (if i < D.1.length then (D.1[i]?).map dcell else bg i) = _
  rw [if_neg (by omega)]
section HS
variable {L : Nat} {xs : Nat → Int32}
theorem hS_lo {i : Nat} {c : dE} (h : dA[i]? = some c) : (hS L xs).1 i = some (dcell c) := by
  have hl : i < dA.length := (List.getElem?_eq_some_iff.mp h).1
  refine dI_at ?_
  show (dA ++ dB ++ [dC])[i]? = some c
  rw [List.append_assoc, List.getElem?_append_left hl, h]
theorem hS_mi {j : Nat} {c : dE} (h : dB[j]? = some c) : (hS L xs).1 (112 + j) = some (dcell c) := by
  have hl : j < dB.length := (List.getElem?_eq_some_iff.mp h).1
  refine dI_at ?_
  show (dA ++ dB ++ [dC])[112 + j]? = some c
  rw [List.append_assoc, List.getElem?_append_right (by rw [len_A]; omega), len_A, show 112 + j - 112 = j by omega, List.getElem?_append_left hl, h]
theorem hS_159 : (hS L xs).1 159 = some (.inl (2, 1, dget (.long 0) [])) := by
  have h : (dA ++ dB ++ [dC])[159]? = some dC := by
    rw [List.getElem?_append_right (by rw [len_AB]; omega), len_AB]
    rfl
  exact dI_at (D := (dA ++ dB ++ [dC], 2733406)) h
theorem hS_hi {i : Nat} (h : 160 ≤ i) : (hS L xs).1 i = bgS L xs i := by
  refine dI_hi (D := (dA ++ dB ++ [dC], 2733406)) ?_
  show (dA ++ dB ++ [dC]).length ≤ i
  rw [len_S]
  exact h
theorem hS_2 : (hS L xs).2 = (160, 2733406) := by
  show ((dA ++ dB ++ [dC]).length, 2733406) = _
  rw [len_S]
theorem hS_c : hS L xs = hC (hS L xs) C0v := by
  refine Prod.ext (funext fun i => ?_) ?_
  · by_cases h1 : i < 112
    · obtain ⟨c, e1, e2⟩ := cellC (h1 := hS L xs) h1
      rw [hS_lo e1, e2]
    · by_cases h2 : i = 1000000000
      · subst h2
        rw [hS_hi (by decide), hC_a (t := 1) (n := 32) ⟨by rw [C0_m]; rfl, by decide, by decide⟩]
        have ef : (fun x : Nat => cav 1 x (C0v 1000000000 (x : Int))) = fun j => Value.int (q_CLS j) := by
          funext x
          have e : C0v 1000000000 (x : Int) = (q_CLS x).toInt := by
            show (if (x : Int) = -1 then _ else if (1000000000 : Nat) = 2000000000 then _ else if (1000000000 : Nat) = 1000000000 then (q_CLS ((x : Int)).toNat).toInt else _) = _
            rw [if_neg (by omega), if_neg (by decide), if_pos rfl]
            rfl
          rw [e]
          exact iv_toInt _
        rw [ef]
        show q_spe ((0, 0), (L, xs)) 1000000000 = _
        unfold q_spe
        rw [if_pos rfl]
        rfl
      · rw [hC_0 (by rw [C0_m, if_neg h1, if_neg h2])]
  · rw [hS_2]
    rfl
set_option maxRecDepth 100000 in
theorem dok_B : (match dB[0]? with
  | some c => dEq c (.inl (11, (List.range 76).map (mfv 112 B0v)))
  | none => false) = true := by decide +kernel
set_option maxRecDepth 100000 in
theorem dok_Br : (List.range 46).all (fun j => match dB[j + 1]?, mAr[j]?, mLn[j]? with
  | some (.inr (t, n, v0, u)), some b, some n' => decide (t = mt b) && decide (n = n') && decide (v0 = mcv (mt b) 0) && decide (u = []) && decide (b ≠ 3)
  | _, _, _ => false) = true := by decide +kernel
theorem hS_m : hS L xs = hM 112 (hS L xs) B0v := by
  refine hM_self (fun i q => ?_)
  by_cases h0 : i = 112
  · subst h0
    have h := dok_B
    split at h
    · rename_i c hc
      have e := dEq_ok h
      subst e
      rw [hM_o]
      exact hS_mi (j := 0) hc
    · cases h
  · obtain ⟨j, rfl⟩ : ∃ j, i = 112 + 1 + j := ⟨i - 113, by omega⟩
    have h := List.all_eq_true.mp dok_Br j (List.mem_range.mpr (by omega))
    try dsimp only at h
    split at h
    · rename_i t n v0 u b n' e1 e2 e3
      rw [Bool.and_eq_true, Bool.and_eq_true, Bool.and_eq_true, Bool.and_eq_true] at h
      have g1 := of_decide_eq_true h.1.1.1.1
      have g2 := of_decide_eq_true h.1.1.1.2
      have g3 := of_decide_eq_true h.1.1.2
      have g4 := of_decide_eq_true h.1.2
      have g5 := of_decide_eq_true h.2
      subst g1 g2 g3 g4
      rw [hM_a e2 e3]
      have := hS_mi (L := L) (xs := xs) (j := j + 1) e1
      rw [show 112 + (j + 1) = 112 + 1 + j by omega] at this
      rw [this]
      have ef : (fun x : Nat => mcv (mt b) (B0v b (x : Int))) = dget (mcv (mt b) 0) [] := by
        funext x
        have : B0v b (x : Int) = 0 := u2_bank g5
        rw [this]
        rfl
      rw [ef]
      rfl
    · cases h
theorem C0_SH : SH C0v := ⟨fun a ha => by rw [C0_m, if_pos ha], by rw [C0_m]; rfl⟩
theorem C0_DI : DI 139 2727262 C0v := by
  have e103 : C0v 103 0 = 104 := by decide +kernel
  have e105 : C0v 105 0 = 106 := by decide +kernel
  have ep : pe C0v = 104 := by unfold pe; rw [e103]; rfl
  have ef : fe C0v = 106 := by unfold fe; rw [e105]; rfl
  have k0 : C0v 2000000000 0 = 160 := by decide +kernel
  have k1 : C0v 2000000000 1 = 2733406 := by decide +kernel
  have km : C0v 2000000000 (-1) = 0 := by rw [C0_m, if_neg (by decide), if_neg (by decide)]
  have p1 : C0v 104 (-1) = 20581 := by rw [C0_m]; decide +kernel
  have p2 : C0v 106 (-1) = 10341 := by rw [C0_m]; decide +kernel
  have z : C0v 103 1 = 0 := by decide +kernel
  unfold DI
  rw [ep, ef, k0, k1, km, p1, p2, z]
  refine ⟨⟨rfl, by decide, by decide⟩, ⟨by decide, by decide, fun i hi => ?_⟩, 11, 10, ⟨by decide, by decide⟩, ⟨by decide, by decide⟩, by decide, by decide, ⟨Or.inl rfl, by decide⟩, ⟨Or.inl rfl, by decide⟩, by decide, by decide, by decide, by decide, by decide⟩
  rw [C0_m, if_neg (by omega), if_neg (by omega)]
theorem B0_z {b : Nat} {y : Int} (h : b ≠ 3) : B0v b y = 0 := u2_bank h
theorem B0_OI : OI B0v := by
  have z : ∀ b y, b ≠ 3 → B0v b y = 0 := fun b y h => B0_z h
  have e3 : B0v 3 0 = -1 := u2_same
  unfold OI
  rw [z 2 0 (by decide), z 14 0 (by decide), z 59 0 (by decide), z 71 0 (by decide), e3]
  refine ⟨⟨by decide, by decide⟩, fun i _ _ => by rw [z 1 i (by decide)]; exact ⟨by decide, by decide⟩, fun i _ _ => by rw [z 4 i (by decide)]; exact ⟨by decide, by decide⟩, fun p _ _ => by rw [z 6 p (by decide)]; exact ⟨by decide, by decide, fun q => absurd q (by decide)⟩, fun x _ _ => by rw [z 5 x (by decide)]; exact ⟨by decide, by decide⟩, fun t _ _ => by rw [z 9 t (by decide)]; exact ⟨by decide, by decide⟩, ⟨by decide, by decide⟩, fun i _ _ => by rw [z 10 i (by decide), z 11 i (by decide)]; exact ⟨⟨by decide, by decide⟩, by decide, by decide⟩, fun y _ => z 31 y (by decide), fun q _ _ => by rw [z 51 q (by decide)]; exact ⟨by decide, by decide⟩, rfl, Or.inl rfl, fun i _ _ => by rw [z 50 i (by decide)]; exact ⟨by decide, by decide⟩, ⟨by decide, by decide⟩⟩
theorem C0_CI : CIv 139 2727262 C0v B0v := by
  have z : ∀ b y, b ≠ 3 → B0v b y = 0 := fun b y h => B0_z h
  have e8 : C0v 0 8 = 84 := by decide +kernel
  have e9 : C0v 0 9 = 86 := by decide +kernel
  have e10 : C0v 0 10 = 108 := by decide +kernel
  have e11 : C0v 0 11 = 110 := by decide +kernel
  have e12 : C0v 0 12 = -1 := by decide +kernel
  have s84 : C0v 84 1 = 0 := by decide +kernel
  have s86 : C0v 86 1 = 0 := by decide +kernel
  have s88 : C0v 88 1 = 0 := by decide +kernel
  have s108 : C0v 108 1 = 0 := by decide +kernel
  refine ⟨C0_SH, C0_DI, ⟨fun j hj => ?_, fun x x0 x1 => ?_⟩, ⟨Or.inl ⟨e8, e9⟩, ?_, ?_⟩, ?_, ⟨Or.inl ⟨e10, e11⟩, ?_⟩, ?_, fun i i0 i1 => ?_, fun t ht => ?_, fun p hp => ?_⟩
  · show (if (j : Int) = -1 then _ else if (1000000000 : Nat) = 2000000000 then _ else if (1000000000 : Nat) = 1000000000 then (q_CLS ((j : Int)).toNat).toInt else _) = _
    rw [if_neg (by omega), if_neg (by decide), if_pos rfl]
    rfl
  · rw [C0_bank (by omega) (by decide) (by decide) (by decide) (by decide +kernel)]
    exact ⟨by decide, by decide⟩
  · rw [e8, z 2 0 (by decide)]
    exact ⟨s84, ⟨Int.le_refl _, by show (0 : Int) ≤ bl 84; rw [ob84.2]; decide⟩, fun i i0 i1 => by omega⟩
  · rw [e9]
    unfold bOK
    show 0 ≤ C0v 86 1 ∧ C0v 86 1 ≤ bl 86
    rw [s86, ob86.2]
    exact ⟨by decide, by decide⟩
  · unfold bOK
    rw [s88, ob88.2]
    exact ⟨by decide, by decide⟩
  · rw [e10]
    show C0v 108 1 = B0v 14 0 ∧ _
    rw [z 14 0 (by decide)]
    exact ⟨s108, ⟨by decide, by decide⟩, fun i i0 i1 => by omega⟩
  · rw [e12]
    exact u2_same.symm
  · rw [z 71 0 (by decide), if_pos rfl]
    show (if i = -1 then _ else if (83 : Nat) = 2000000000 then _ else if (83 : Nat) = 1000000000 then _ else if (83 : Nat) = 83 then (if 0 ≤ i ∧ i < 20 then -1 else 0) else _) = _
    rw [if_neg (by omega), if_neg (by decide), if_neg (by decide), if_pos rfl, if_pos ⟨i0, i1⟩]
  · rw [z 9 _ (by decide)]
    have : ∀ t : Fin 4, C0v (75 + 2 * t.1) 1 = 0 := by decide +kernel
    exact ⟨this ⟨t, ht⟩, ⟨Int.le_refl _, by rw [(tx_ob ht).2]; decide⟩, fun i i0 i1 => by omega⟩
  · have : ∀ p : Fin 8, C0v (pa p.1) 10 = -1 ∧ C0v (pa p.1) 11 = -1 := by decide +kernel
    exact ⟨fun _ => this ⟨p, hp⟩, fun q => absurd (z 6 _ (by decide)) q⟩
theorem S_JI : JI L xs 139 2727262 (hS L xs) C0v B0v := by
  refine ⟨hS_c, hS_m, C0_CI, B0_OI, ?_, _, hS_159⟩
  rw [hS_hi (by decide)]
  show q_spe ((0, 0), (L, xs)) 1000000001 = _
  unfold q_spe
  rw [if_neg (by decide), if_pos rfl]
theorem h0_d : q_h0 L xs = dI (bgS L xs) ([], 0) := by
  refine Prod.ext (funext fun i => ?_) rfl
  exact (dI_hi (bg := bgS L xs) (D := ([], 0)) (Nat.zero_le i)).symm
end HS
set_option maxRecDepth 100000 in
theorem V_start {d L : Nat} {xs : Nat → Int32} (hd : 130 ≤ d) (hL : L ≤ 3072) : qV d 0 [some (.ref 1000000001), none, none, none, none, none, none, none] [] (q_h0 L xs) := by
  rw [h0_d]
  have m1 : d_mem 12 false (.new 8) [] ([], 0) = some ([.ref 0], dN1) := by
    show d_newo 12 8 [] ([], 0) = _
    unfold d_newo
    rw [show q_cls 12 8 = some 10 by decide +kernel]
    rfl
  refine v_go (r_mem (ckc_at dlawh 0 rfl) rfl rfl (fun _ => rfl) rfl (d_mem_s (bg := bgS L xs) m1)) ?_
  refine v_go (r_op (ckc_at dlawh 1 rfl) rfl o_dupR) ?_
  refine v_call (k := 0) (as := [.ref 0]) (r := [.ref 0]) (v := none) (h' := dI (bgS L xs) (dA, 58352)) (ckc_at dlawh 2 rfl) rfl rfl (fun _ => rfl) rfl ?_ (fun q => by cases q) ?_ ⟨by decide +kernel, by decide +kernel, by decide⟩ ⟨5000, q_run_le _ _ _ _ _ _ _ _ (d_sim _ _ _ _ _ _ _ _ dr1) _ _ (Nat.le_refl _) (by omega)⟩ ?_
  · unfold q_mem
    dsimp only
    rw [show q_obj 12 63 = false by decide +kernel]
    exact if_neg (by decide)
  · unfold q_inv
    dsimp only
    rw [show q_mth 12 63 = some 0 by decide +kernel]
    dsimp only
    rw [if_pos (by decide +kernel)]
    rfl
  refine v_go (r_st1 (ok := q_isA) (n := 1) (L' := [some (.ref 1000000001), some (.ref 0), none, none, none, none, none, none]) (ckc_at dlawh 3 rfl) rfl (fun _ => rfl) (fun _ _ => rfl) rfl rfl (by decide) rfl rfl) ?_
  have m2 : d_mem 12 false (.new 64) [] (dA, 58352) = some ([.ref 112], dN2) := by
    show d_newo 12 64 [] (dA, 58352) = _
    unfold d_newo
    rw [show q_cls 12 64 = some 11 by decide +kernel]
    dsimp only
    rw [len_A, if_pos (by decide)]
    rfl
  refine v_go (r_mem (ckc_at dlawh 4 rfl) rfl rfl (fun _ => rfl) rfl (d_mem_s (bg := bgS L xs) m2)) ?_
  refine v_go (r_op (ckc_at dlawh 5 rfl) rfl o_dupR) ?_
  refine v_call (k := 157) (as := [.ref 112]) (r := [.ref 112]) (v := none) (h' := dI (bgS L xs) (dA ++ dB, 2733405)) (ckc_at dlawh 6 rfl) rfl rfl (fun _ => rfl) rfl ?_ (fun q => by cases q) ?_ ⟨by decide +kernel, by decide +kernel, by decide⟩ ⟨5000, q_run_le _ _ _ _ _ _ _ _ (d_sim _ _ _ _ _ _ _ _ dr2) _ _ (Nat.le_refl _) (by omega)⟩ ?_
  · unfold q_mem
    dsimp only
    rw [show q_obj 12 66 = false by decide +kernel]
    exact if_neg (by decide)
  · unfold q_inv
    dsimp only
    rw [show q_mth 12 66 = some 157 by decide +kernel]
    dsimp only
    rw [if_pos (by decide +kernel)]
    rfl
  refine v_go (r_st1 (ok := q_isA) (n := 2) (L' := [some (.ref 1000000001), some (.ref 0), some (.ref 112), none, none, none, none, none]) (ckc_at dlawh 7 rfl) rfl (fun _ => rfl) (fun _ _ => rfl) rfl rfl (by decide) rfl rfl) ?_
  refine v_go (r_op (ckc_at dlawh 8 rfl) rfl (o_const _)) ?_
  have m3 : d_mem 12 false (.newarray .long) [iv 1] (dA ++ dB, 2733405) = some ([.ref 159], (dA ++ dB ++ [dC], 2733406)) := by
    show d_newa .long [iv 1] (dA ++ dB, 2733405) = _
    unfold d_newa q_aty iv
    dsimp only
    rw [len_AB, if_pos (by decide)]
    rfl
  refine v_go (r_mem (ckc_at dlawh 9 rfl) rfl rfl (fun _ => rfl) rfl (d_mem_s (bg := bgS L xs) m3)) ?_
  refine v_go (r_st1 (ok := q_isA) (n := 3) (L' := [some (.ref 1000000001), some (.ref 0), some (.ref 112), some (.ref 159), none, none, none, none]) (ckc_at dlawh 10 rfl) rfl (fun _ => rfl) (fun _ _ => rfl) rfl rfl (by decide) rfl rfl) ?_
  refine v_go (r_op (ckc_at dlawh 11 rfl) rfl (o_const _)) ?_
  refine v_go (r_st1 (ok := q_isI) (n := 4) (L' := [some (.ref 1000000001), some (.ref 0), some (.ref 112), some (.ref 159), some (iv 0), none, none, none]) (ckc_at dlawh 12 rfl) rfl (fun _ => rfl) (fun _ _ => rfl) rfl rfl (by decide) rfl rfl) ?_
  exact V_loop hd hL (L + 1) 0 (hS L xs) C0v B0v 139 2727262 (by omega) (Int.le_refl _) (by omega) S_JI (by decide) (by decide)
/-- THE PURE STATEMENT -/
theorem q_whole_ok : q_whole := by
  intro L xs hL
  obtain ⟨N, F, h', hr, hb⟩ := V_start (d := 150) (L := L) (xs := xs) (by decide) hL
  refine ⟨N, 150, F, h', by decide, hr _ (fun i v q => ?_), hb⟩
  match i, q with
  | 0, q => cases q; rfl
  | 1, q => cases q
  | 2, q => cases q
  | 3, q => cases q
  | 4, q => cases q
  | 5, q => cases q
  | 6, q => cases q
  | 7, q => cases q
  | n + 8, q => cases q
