/-! THE CLASS'S CALLS: replace -/
section KR
variable {h1 : qH} {d : Nat} {Q : qO → qB → Prop} {C C' B B' : qB} {c0 s0 : Int} {src tt : Nat} {n rn : Int} {tx rd g : Int → Int}
theorem isDg_iff2 {x : Int} : isDg x = true ↔ 48 ≤ x ∧ x ≤ 57 := by
  unfold isDg
  rw [Bool.and_eq_true, decide_eq_true_iff, decide_eq_true_iff]
theorem K_wrong (hd : 3 ≤ d) (hS : SH C) (oM : ob 1 src) (hM : BY C src rn rd) (hrn : rn ≤ 1200)
    (k1 : vld rd rn 1201 0 = none → Q (.inl (some (iv (-1)))) C)
    (k2 : ∀ w, vld rd rn 1201 0 = some w → (1 ≤ w ∧ w ≤ 1201) → Q (.inl (some (iv w))) C) : qY h1 d n_P_wrongPlace 0 [some (.ref src), none, none] [] C Q := by
  obtain ⟨d, rfl, he⟩ := d_pos hd
  have h0 := hM.2.1
  have L : ∀ (N : Nat) (i : Int), 0 ≤ i → rn - i < N → i ≤ 1201 → vld rd rn N i = vld rd rn 1201 0 → qY h1 (d + 1) n_P_wrongPlace 2 [some (.ref src), some (iv i), none] [] C Q := by
    intro N
    induction N with
    | zero =>
      intro i i0 hN i1 hv
      refine c_P_wrongPlace_2_ok (by omega) hS oM ?_
      unfold c_P_wrongPlace_2
      rw [hM.1]
      exact ⟨⟨by omega, by omega⟩, ⟨by omega, by omega⟩, fun _ => k1 hv.symm, fun q => by omega⟩
    | succ N ih =>
      intro i i0 hN i1 hv
      have es : vld rd rn (N + 1) i = if rn ≤ i then none else if rd i = 36 then (if i + 1 < rn ∧ (rd (i + 1) = 36 ∨ (48 ≤ rd (i + 1) ∧ rd (i + 1) ≤ 57)) then vld rd rn N (i + 2) else some (i + 1)) else vld rd rn N (i + 1) := rfl
      rw [es] at hv
      refine c_P_wrongPlace_2_ok (by omega) hS oM ?_
      unfold c_P_wrongPlace_2
      rw [hM.1]
      refine ⟨⟨by omega, by omega⟩, ⟨by omega, by omega⟩, fun q => ?_, fun q => ?_⟩
      · rw [if_pos (by omega)] at hv
        exact k1 hv.symm
      · rw [if_neg (by omega)] at hv
        have eb := hM.at i0 q
        have r1 := byA_bd C src i
        have r2 := byA_bd C src (i + 1)
        refine ⟨hM.ok, ⟨by omega, by omega⟩, fun z => ?_, fun z => ⟨⟨by omega, by omega⟩, ⟨by omega, by omega⟩, fun z2 => ?_, fun z2 => ⟨fun z3 => ?_, fun z3 => ?_⟩⟩⟩
        · rw [if_neg (by rw [← eb]; exact z)] at hv
          unfold c_P_wrongPlace_44
          exact ih (i + 1) (by omega) (by omega) (by omega) hv
        · have l1 : i + 1 < rn := by
            by_cases l : i + 1 < rn
            · exact l
            · rw [hM.out (by omega)] at z2; omega
          rw [if_pos (by rw [← eb]; exact z), if_pos ⟨l1, Or.inl (by rw [← hM.at (by omega) l1]; exact z2)⟩] at hv
          unfold c_P_wrongPlace_44
          rw [show i + 1 + 1 = i + 2 by omega]
          exact ih (i + 2) (by omega) (by omega) (by omega) hv
        · have dg := isDg_iff2.mp (bi_n0.mp z3)
          have l1 : i + 1 < rn := by
            by_cases l : i + 1 < rn
            · exact l
            · rw [hM.out (by omega)] at dg; omega
          rw [if_pos (by rw [← eb]; exact z), if_pos ⟨l1, Or.inr (by rw [← hM.at (by omega) l1]; exact dg)⟩] at hv
          unfold c_P_wrongPlace_44
          rw [show i + 1 + 1 = i + 2 by omega]
          exact ih (i + 2) (by omega) (by omega) (by omega) hv
        · have dg : ¬ (48 ≤ byA C src (i + 1) ∧ byA C src (i + 1) ≤ 57) := fun w => by
            have := isDg_iff2.mpr w
            rw [bi_z.mp z3] at this
            exact absurd this (by decide)
          rw [if_pos (by rw [← eb]; exact z), if_neg (fun w => by have e2 := hM.at (i := i + 1) (by omega) w.1; omega)] at hv
          exact k2 _ hv.symm (by omega)
  refine c_P_wrongPlace_0_ok (by omega) hS oM ?_
  unfold c_P_wrongPlace_0
  exact L 1201 0 (Int.le_refl _) (by omega) (by decide) rfl
/-- what stands for one sign behind a $ -/
def sgn (tx : Int → Int) (g : Int → Int) (c : Int) : List Int := if c = 36 then [36] else if g (2 * (c - 48)) < 0 ∨ g (2 * (c - 48) + 1) < 0 then [] else sgm tx (g (2 * (c - 48) + 1) - g (2 * (c - 48))).toNat (g (2 * (c - 48)))
theorem K_sign {c : Int} {w : List Int} (hd : 3 ≤ d) (hS : SH C) (oT : ob 1 tt) (hT : tt < 83) (hX : BY C tt n tx) (h : OT C w 1) (hg : ∀ i, 0 ≤ i → i < 20 → C 107 i = g i) (hgr : ∀ i, -1 ≤ g i ∧ g i ≤ n) (hc : c = 36 ∨ (48 ≤ c ∧ c ≤ 57))
    (k : ∀ C' v, SH C' → (∀ b z, b ≠ 88 → b ≠ 89 → C' b z = C b z) → OT C' (w ++ sgn tx g c) v → Q (.inl (some (iv v))) C') : qY h1 d n_P_writeSign 0 [some (.ref 0), some (.ref tt), some (iv c), none] [] C Q := by
  obtain ⟨d, rfl, he⟩ := d_pos hd
  refine c_P_writeSign_0_ok (by omega) hS oT ?_
  unfold c_P_writeSign_0
  refine ⟨⟨by omega, by omega⟩, fun q => ?_, fun q => ?_⟩
  · have dg := isDg_iff2.mp (bi_n0.mp q)
    have e1 : sgn tx g c = (if g (2 * (c - 48)) < 0 ∨ g (2 * (c - 48) + 1) < 0 then [] else sgm tx (g (2 * (c - 48) + 1) - g (2 * (c - 48))).toNat (g (2 * (c - 48)))) := by
      unfold sgn
      rw [if_neg (by omega)]
    rw [hg _ (by omega) (by omega), hg _ (by omega) (by omega)]
    refine ⟨by omega, by omega, by omega, by omega, ?_⟩
    refine K_part2 (by omega) hS oT hT hX h (hgr _) (hgr _) (fun C' v s1 s2 s3 => ⟨v, rfl, s1, ?_⟩)
    unfold c_P_writeSign_49
    rw [← e1] at s3
    exact ⟨s3.ok.1, k C' v s1 s2 s3⟩
  · have dg : c = 36 := by
      rcases hc with w | w
      · exact w
      · have := isDg_iff2.mpr w
        rw [bi_z.mp q] at this
        exact absurd this (by decide)
    have e1 : sgn tx g c = [c] := by
      unfold sgn
      rw [if_pos dg, dg]
    obtain ⟨a1, a2⟩ := h.add (c := c) ⟨by omega, by omega⟩
    refine ⟨h.ok.2, k _ _ (S_By_add hS ob88.1 h.ok.2) a2 (by rw [e1]; exact a1)⟩
theorem sbs_s {N : Nat} {i : Int} (hi : i < rn) (h : rd i = 36) : sbs tx rd rn g (N + 1) i = sgn tx g (rd (i + 1)) ++ sbs tx rd rn g N (i + 2) := by
  show (if rn ≤ i then [] else if rd i = 36 then (if rd (i + 1) = 36 then 36 :: sbs tx rd rn g N (i + 2) else (if g (2 * (rd (i + 1) - 48)) < 0 ∨ g (2 * (rd (i + 1) - 48) + 1) < 0 then [] else sgm tx (g (2 * (rd (i + 1) - 48) + 1) - g (2 * (rd (i + 1) - 48))).toNat (g (2 * (rd (i + 1) - 48)))) ++ sbs tx rd rn g N (i + 2)) else rd i :: sbs tx rd rn g N (i + 1)) = _
  rw [if_neg (by omega), if_pos h]
  unfold sgn
  by_cases q : rd (i + 1) = 36
  · rw [if_pos q, if_pos q]; rfl
  · rw [if_neg q, if_neg q]
theorem sbs_c {N : Nat} {i : Int} (hi : i < rn) (h : ¬ rd i = 36) : sbs tx rd rn g (N + 1) i = rd i :: sbs tx rd rn g N (i + 1) := by
  show (if rn ≤ i then [] else if rd i = 36 then _ else rd i :: sbs tx rd rn g N (i + 1)) = _
  rw [if_neg (by omega), if_neg h]
theorem sbs_e {N : Nat} {i : Int} (hi : rn ≤ i) : sbs tx rd rn g N i = [] := by
  cases N with
  | zero => rfl
  | succ N =>
    unfold sbs
    rw [if_pos hi]
theorem K_model {w : List Int} (hd : 5 ≤ d) (hS : SH C) (oT : ob 1 tt) (hT : tt < 83) (hX : BY C tt n tx) (oM : ob 1 src) (hs : src = 84 ∨ src = 86) (hM : BY C src rn rd) (hrn : rn ≤ 1200) (hrd : ∀ i, 0 ≤ i → i < rn → 0 ≤ rd i ∧ rd i < 256) (hv : vld rd rn 1201 0 = none) (h : OT C w 1) (hg : ∀ i, 0 ≤ i → i < 20 → C 107 i = g i) (hgr : ∀ i, -1 ≤ g i ∧ g i ≤ n)
    (k : ∀ C' v, SH C' → (∀ b z, b ≠ 88 → b ≠ 89 → C' b z = C b z) → OT C' (w ++ sbs tx rd rn g 1201 0) v → Q (.inl (some (iv v))) C') : qY h1 d n_P_writeModel 0 [some (.ref 0), some (.ref tt), some (.ref src), none, none, none] [] C Q := by
  obtain ⟨d, rfl, he⟩ := d_pos hd
  have h0 := hM.2.1
  have L : ∀ (N : Nat) (i f : Int) (Ck : qB) (wk : List Int), 0 ≤ i → rn - i < N → i ≤ 1202 → SH Ck → (∀ b z, b ≠ 88 → b ≠ 89 → Ck b z = C b z) → OT Ck wk f → vld rd rn N i = none → wk ++ sbs tx rd rn g N i = w ++ sbs tx rd rn g 1201 0 → qY h1 (d + 1) n_P_writeModel 5 [some (.ref 0), some (.ref tt), some (.ref src), some (iv f), some (iv i), none] [] Ck Q := by
    intro N
    induction N with
    | zero =>
      intro i f Ck wk i0 hN i1 sk fk ok vk ek
      have mk : BY Ck src rn rd := hM.fr (fk _ _ (by omega) (by omega)) (fun i => fk _ _ (by omega) (by omega))
      rw [sbs_e (by omega), List.append_nil] at ek
      subst ek
      refine c_P_writeModel_5_ok (by omega) sk oT oM ?_
      unfold c_P_writeModel_5
      rw [mk.1]
      exact ⟨⟨by omega, by omega⟩, ⟨by omega, by omega⟩, fun _ => ⟨ok.ok.1, k Ck f sk fk ok⟩, fun q => by omega⟩
    | succ N ih =>
      intro i f Ck wk i0 hN i1 sk fk ok vk ek
      have mk : BY Ck src rn rd := hM.fr (fk _ _ (by omega) (by omega)) (fun i => fk _ _ (by omega) (by omega))
      have fr := ok.ok.1
      refine c_P_writeModel_5_ok (by omega) sk oT oM ?_
      unfold c_P_writeModel_5
      rw [mk.1]
      refine ⟨⟨by omega, by omega⟩, ⟨by omega, by omega⟩, fun q => ⟨fr, ?_⟩, fun q => ⟨⟨by omega, by omega⟩, fun z => ⟨fr, ?_⟩, fun z => ?_⟩⟩
      · rw [sbs_e (by omega), List.append_nil] at ek
        subst ek
        exact k Ck f sk fk ok
      · subst z
        refine k Ck 0 sk fk ?_
        rw [← ek]
        exact ok.more _
      · have f1 : f = 1 := by omega
        subst f1
        have es : vld rd rn (N + 1) i = if rn ≤ i then none else if rd i = 36 then (if i + 1 < rn ∧ (rd (i + 1) = 36 ∨ (48 ≤ rd (i + 1) ∧ rd (i + 1) ≤ 57)) then vld rd rn N (i + 2) else some (i + 1)) else vld rd rn N (i + 1) := rfl
        rw [es, if_neg (by omega)] at vk
        have eb := mk.at i0 q
        have r1 := byA_bd Ck src i
        refine ⟨mk.ok, ⟨by omega, by omega⟩, fun z2 => ⟨⟨by omega, by omega⟩, ?_⟩, fun z2 => ⟨ok.ok.2, ?_⟩⟩
        · rw [eb] at z2
          rw [if_pos z2] at vk
          by_cases z3 : i + 1 < rn ∧ (rd (i + 1) = 36 ∨ (48 ≤ rd (i + 1) ∧ rd (i + 1) ≤ 57))
          · rw [if_pos z3] at vk
            rw [sbs_s q z2] at ek
            rw [mk.at (by omega) z3.1]
            refine K_sign (g := g) (by omega) sk oT hT (hX.fr (fk _ _ (by omega) (by omega)) (fun i => fk _ _ (by omega) (by omega))) ok (fun i i0 i1 => by rw [fk _ _ (by decide) (by decide)]; exact hg i i0 i1) hgr z3.2 (fun C' v s1 s2 s3 => ⟨v, rfl, s1, ?_⟩)
            unfold c_P_writeModel_60 c_P_writeModel_61
            rw [show i + 1 + 1 = i + 2 by omega]
            exact ih (i + 2) v C' _ (by omega) (by omega) (by omega) s1 (fun b z q1 q2 => by rw [s2 b z q1 q2]; exact fk b z q1 q2) s3 vk (by rw [List.append_assoc]; exact ek)
          · rw [if_neg z3] at vk; cases vk
        · rw [eb] at z2 ⊢
          rw [if_neg z2] at vk
          rw [sbs_c q z2] at ek
          have hb := hrd i i0 q
          obtain ⟨a1, a2⟩ := ok.add (c := rd i) ⟨hb.1, by omega⟩
          unfold c_P_writeModel_61
          exact ih (i + 1) _ _ _ (by omega) (by omega) (by omega) (S_By_add sk ob88.1 ok.ok.2) (fun b z q1 q2 => by rw [a2 b z q1 q2]; exact fk b z q1 q2) a1 vk (by rw [List.append_assoc]; exact ek)
  refine c_P_writeModel_0_ok (by omega) hS oT oM ?_
  unfold c_P_writeModel_0
  exact L 1201 0 1 C w (Int.le_refl _) (by omega) (by decide) hS (fun _ _ _ _ => rfl) h hv rfl
/-- what the writing has changed -/
def FrR (fd : Nat) (C C' : qB) : Prop := (∀ b x, (b < 102 ∧ b ≠ 88 ∧ b ≠ 89) ∨ (108 ≤ b ∧ b < 112 ∧ b ≠ fd ∧ b ≠ fd + 1) → C' b x = C b x) ∧ ∀ x, C' 1000000000 x = C 1000000000 x
theorem rpl_none {e : qT} {f : Nat} {s bh : Int} (h : fstM n tx e 0 (n + 1 - s).toNat s = none) : rpl n tx e rd rn f s bh = sgm tx (n - bh).toNat bh := by
  cases f with
  | zero => rfl
  | succ f =>
    unfold rpl
    rw [h]
theorem rpl_some {e : qT} {f : Nat} {s bh b : Int} {o : Int × qCp} (hf : 0 < f) (h : fstM n tx e 0 (n + 1 - s).toNat s = some (b, o)) : rpl n tx e rd rn f s bh = sgm tx (b - bh).toNat bh ++ (sbs tx rd rn (grp b o) 1201 0 ++ rpl n tx e rd rn (f - 1) (if o.1 = b then o.1 + 1 else o.1) o.1) := by
  obtain ⟨f, rfl⟩ : ∃ g, f = g + 1 := ⟨f - 1, by omega⟩
  show (match fstM n tx e 0 (n + 1 - s).toNat s with
    | none => sgm tx (n - bh).toNat bh
    | some (b, o) => sgm tx (b - bh).toNat bh ++ (sbs tx rd rn (grp b o) 1201 0 ++ rpl n tx e rd rn f (if o.1 = b then o.1 + 1 else o.1) o.1)) = _
  rw [h]
  rfl
end KR
