/-! THE LAW: its loop -/
theorem a15 (v : Int) : 0 ≤ iAnd v 15 ∧ iAnd v 15 ≤ 15 := by
  have e : (Int32.ofInt v &&& Int32.ofInt 15).toBitVec.toNat ≤ 15 := by
    rw [Int32.toBitVec_and, BitVec.toNat_and]
    exact Nat.and_le_right
  unfold iAnd
  rw [i_nat rfl (by omega)]
  omega
theorem nI_iv {L : Nat} (h : L ≤ 3072) : (.int (nI L) : Value) = iv (L : Int) := by
  unfold iv nI
  first
    | rfl
    | (congr 1)
/-- the room at the end -/
theorem rm_end {L : Nat} {xs : Nat → Int32} {c0 s0 : Int} {h : qH} {C B : qB} (hj : JI L xs c0 s0 h C B) (hc : c0 ≤ 10000) (hs : s0 ≤ 5003078) : h.2.1 ≤ 601024 ∧ h.2.2 ≤ 7293034 := by
  obtain ⟨⟨g1, g2, g3⟩, g4, kp, kf, k1, k2, k3, k4, k5, k6, k7, k8, k9, k10, k11⟩ := hj.2.2.1.2.1
  have l1 := p2_le k1.2
  have l2 := p2_le k2.2
  have q1 : ((2 ^ 20 : Nat) : Int) = 1048576 := by decide
  have q2 : ((2 ^ 16 : Nat) : Int) = 65536 := by decide
  have e : h.2 = ((C 2000000000 0).toNat, (C 2000000000 1).toNat) := by
    have : h.2 = (hC h C).2 := by rw [← hj.1]
    rw [this]
    rfl
  rw [e]
  exact ⟨by show (C 2000000000 0).toNat ≤ 601024; omega, by show (C 2000000000 1).toNat ≤ 7293034; omega⟩
theorem V_loop {d L : Nat} {xs : Nat → Int32} (hd : 130 ≤ d) (hL : L ≤ 3072) : ∀ (N : Nat) (i : Int) (h : qH) (C B : qB) (c0 s0 : Int), ((L : Int) - i).toNat < N → 0 ≤ i → i ≤ L → JI L xs c0 s0 h C B → c0 ≤ 200 + i → s0 ≤ 5000000 + i → qV d 23 [some (.ref 1000000001), some (.ref 0), some (.ref 112), some (.ref 159), some (iv i), none, none, none] [] h := by
  intro N
  induction N with
  | zero => intro i h C B c0 s0 q; exact absurd q (Nat.not_lt_zero _)
  | succ N ih =>
    intro i h C B c0 s0 hN i0 i1 hj hc hs
    refine v_go (r_ldk (ok := q_isI) (n := 4) (ckc_at dlawh 13 rfl) rfl rfl (fun _ => rfl) rfl rfl) ?_
    refine v_go (r_ldk (ok := q_isA) (n := 0) (ckc_at dlawh 14 rfl) rfl rfl (fun _ => rfl) rfl rfl) ?_
    refine v_go (r_mem (ckc_at dlawh 15 rfl) rfl rfl (fun _ => rfl) rfl (m_len hj.2.2.2.2.1)) ?_
    rw [nI_iv hL]
    refine v_go (r_op (ckc_at dlawh 16 rfl) rfl (o_bipush _ (by decide))) ?_
    refine v_go (r_op (ckc_at dlawh 17 rfl) rfl o_isub) ?_
    refine v_icmp (t := 949) (ckc_at dlawh 18 rfl) (by decide) ⟨by omega, by omega⟩ ⟨by omega, by omega⟩ (fun q => ?_) (fun q => ?_)
    · refine v_go (r_op (ckc_at dlawh 27 rfl) rfl (o_const _)) ?_
      exact v_end (ckc_at dlawh 28 rfl) (rm_end hj (by omega) (by omega))
    · have hi : 0 ≤ i ∧ i + 6 ≤ L := ⟨i0, by have : i ≤ (L : Int) - 6 := q; omega⟩
      have nx : ∀ (h' : qH) (C' B' : qB) (c1 s1 : Int), JI L xs c1 s1 h' C' B' → ((c1 = c0 ∧ s1 = s0) ∨ (c1 = c0 + 1 ∧ s1 = s0 + 6)) → qV d 943 [some (.ref 1000000001), some (.ref 0), some (.ref 112), some (.ref 159), some (iv i), none, none, none] [] h' := by
        intro h' C' B' c1 s1 hj' hcs
        refine v_go (r_iinc (L' := [some (.ref 1000000001), some (.ref 0), some (.ref 112), some (.ref 159), some (iv (i + 6)), none, none, none]) (ckc_at dlawh 25 rfl) rfl rfl (by decide) rfl rfl) ?_
        refine v_go (r_goto (t := 23) (ckc_at dlawh 26 rfl) (by decide)) ?_
        exact ih (i + 6) h' C' B' c1 s1 (by omega) (by omega) (by omega) hj' (by omega) (by omega)
      refine v_go (r_ldk (ok := q_isA) (n := 0) (ckc_at dlawh 19 rfl) rfl rfl (fun _ => rfl) rfl rfl) ?_
      refine v_go (r_ldk (ok := q_isI) (n := 4) (ckc_at dlawh 20 rfl) rfl rfl (fun _ => rfl) rfl rfl) ?_
      refine v_go (r_mem (ckc_at dlawh 21 rfl) rfl rfl (fun _ => rfl) rfl (m_scr hj.2.2.2.2.1 i0 (by omega) hL)) ?_
      refine v_go (r_op (ckc_at dlawh 22 rfl) rfl (o_bipush _ (by decide))) ?_
      refine v_go (r_op (ckc_at dlawh 23 rfl) rfl o_iand) ?_
      have hv := a15 (X xs i)
      generalize iAnd (X xs i) 15 = v at hv
      have hc1 : c0 + 1 ≤ 900000000 := by omega
      have hsw := ckc_at dlawh 24 rfl
      obtain ⟨v0, v1⟩ := hv
      have sw : ∀ (t : Nat), q_jmp (.tableswitch 903 0 11 #[64, 168, 224, 280, 336, 428, 496, 564, 632, 700, 780, 847]) 40 [iv v] = some (t, []) → qV d t [some (.ref 1000000001), some (.ref 0), some (.ref 112), some (.ref 159), some (iv i), none, none, none] [] h → qV d 40 [some (.ref 1000000001), some (.ref 0), some (.ref 112), some (.ref 159), some (iv i), none, none, none] [iv v] h := fun t e x => v_go (r_jmp (ckc_at dlawh 24 rfl) rfl rfl (fun _ => rfl) e) x
      show qV d 40 [some (.ref 1000000001), some (.ref 0), some (.ref 112), some (.ref 159), some (iv i), none, none, none] [iv v] h
      have hv16 : v = 0 ∨ v = 1 ∨ v = 2 ∨ v = 3 ∨ v = 4 ∨ v = 5 ∨ v = 6 ∨ v = 7 ∨ v = 8 ∨ v = 9 ∨ v = 10 ∨ v = 11 ∨ v = 12 ∨ v = 13 ∨ v = 14 ∨ v = 15 := by omega
      rcases hv16 with rfl | rfl | rfl | rfl | rfl | rfl | rfl | rfl | rfl | rfl | rfl | rfl | rfl | rfl | rfl | rfl
      · exact sw 104 (by decide +kernel) (V_feed hd hj hc1 hi hL nx)
      · exact sw 208 (by decide +kernel) (V_end hd hj hc1 hi hL nx)
      · exact sw 264 (by decide +kernel) (V_pattern hd hj hc1 hi hL nx)
      · exact sw 320 (by decide +kernel) (V_text hd hj hc1 hi hL nx)
      · exact sw 376 (by decide +kernel) (V_match hd hj hc1 hi hL nx)
      · exact sw 468 (by decide +kernel) (V_group hd hj hc1 hi hL nx)
      · exact sw 536 (by decide +kernel) (V_find hd hj hc1 hi hL nx)
      · exact sw 604 (by decide +kernel) (V_found hd hj hc1 hi hL nx)
      · exact sw 672 (by decide +kernel) (V_replace hd hj hc1 hi hL nx)
      · exact sw 740 (by decide +kernel) (V_span hd hj hc1 hi hL nx)
      · exact sw 820 (by decide +kernel) (V_word hd hj hc1 hi hL nx)
      · exact sw 887 (by decide +kernel) (V_count hd hj hc1 hi hL nx)
      · exact sw 943 (by decide +kernel) (nx h C B c0 s0 hj (Or.inl ⟨rfl, rfl⟩))
      · exact sw 943 (by decide +kernel) (nx h C B c0 s0 hj (Or.inl ⟨rfl, rfl⟩))
      · exact sw 943 (by decide +kernel) (nx h C B c0 s0 hj (Or.inl ⟨rfl, rfl⟩))
      · exact sw 943 (by decide +kernel) (nx h C B c0 s0 hj (Or.inl ⟨rfl, rfl⟩))
