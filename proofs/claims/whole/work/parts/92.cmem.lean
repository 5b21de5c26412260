/-! THE CLASS: its objects as one memory. Bank = number of the object, index = field or element; index -1 = shape (0: not ours, k + 1: object of class k, 100 + type + 10 * length: array); bank 2000000000: numbers used, slots made. References that never change are fixed by class and number. -/
def cfo (k j a : Nat) : Option Nat := if k = 1 ∨ k = 3 ∨ k = 7 then (if j = 0 then some (a + 1) else none) else if k = 5 then (if j < 7 then some (a + 1 + j) else none) else if k = 8 then (if j < 8 then some (a + 1 + j) else none) else if k = 9 then (if j = 0 then some (a + 1) else if j = 1 then some (a + 3) else if j = 2 then some (a + 5) else none) else if k = 0 ∨ k = 6 then (if j = 0 then some 90 else none) else if k = 10 then [10, 74, 83, 90, 100, 101, 102, 88][j]? else none
/-- fields that hold changing references -/
def crf (k j : Nat) : Bool := (k == 0 && j == 1) || (k == 2 && j == 0) || (k == 4 && j == 0) || (k == 6 && j == 1) || (k == 9 && (j == 3 || j == 4)) || (k == 10 && (j == 8 || j == 9 || j == 10 || j == 11))
def ofv (k a : Nat) (C : qB) (j : Nat) : Value := match cfo k j a with
  | some r => .ref r
  | none => if crf k j = true then .ref (C a j).toNat else iv (C a j)
def cav (t x : Nat) (z : Int) : Value := if t = 2 then wv z else if t = 4 then (if x < 4 then .ref (75 + 2 * x) else .null) else if t = 5 then (if x < 8 then .ref (if x = 0 then 1 else 2 + 9 * x) else .null) else iv z
def hC (h1 : qH) (C : qB) : qH := (fun i => if C i (-1) = 0 then h1.1 i else if C i (-1) < 100 then some (.inr ((C i (-1) - 1).toNat, (List.range (qN (C i (-1) - 1).toNat)).map (ofv (C i (-1) - 1).toNat i C))) else some (.inl (((C i (-1) - 100) % 10).toNat, ((C i (-1) - 100) / 10).toNat, fun x => cav ((C i (-1) - 100) % 10).toNat x (C i x))), (C 2000000000 0).toNat, (C 2000000000 1).toNat)
/-- a is an object of class k -/
def isO (C : qB) (k a : Nat) : Prop := C a (-1) = k + 1 ∧ k < 12
/-- a is an array of type t with n elements -/
def isA (C : qB) (t a : Nat) (n : Int) : Prop := C a (-1) = 100 + t + 10 * n ∧ t < 6 ∧ 0 ≤ n
theorem hC_o {h1 : qH} {C : qB} {k a : Nat} (h : isO C k a) : (hC h1 C).1 a = some (.inr (k, (List.range (qN k)).map (ofv k a C))) := by
  obtain ⟨e, hk⟩ := h
  show (if C a (-1) = 0 then _ else if C a (-1) < 100 then _ else _) = _
  rw [e, if_neg (by omega), if_pos (by omega), show ((k : Int) + 1 - 1).toNat = k by omega]
theorem hC_a {h1 : qH} {C : qB} {t a : Nat} {n : Int} (h : isA C t a n) : (hC h1 C).1 a = some (.inl (t, n.toNat, fun x => cav t x (C a x))) := by
  obtain ⟨e, ht, hn⟩ := h
  show (if C a (-1) = 0 then _ else if C a (-1) < 100 then _ else _) = _
  rw [e, if_neg (by omega), if_neg (by omega), show ((100 + (t : Int) + 10 * n - 100) % 10).toNat = t by omega, show ((100 + (t : Int) + 10 * n - 100) / 10) = n by omega]
theorem isO_u {C : qB} {k a b : Nat} {x z : Int} (h : isO C k a) (hx : 0 ≤ x) : isO (u2 C b x z) k a := ⟨by rw [u2_idx (by omega)]; exact h.1, h.2⟩
theorem isA_u {C : qB} {t a b : Nat} {n x z : Int} (h : isA C t a n) (hx : 0 ≤ x) : isA (u2 C b x z) t a n := ⟨by rw [u2_idx (by omega)]; exact h.1, h.2⟩
/-- a write into a field -/
theorem hC_putF {h1 : qH} {C : qB} {k a j : Nat} {z : Int} {v : Value} (h : isO C k a) (ha : a < 1000000000) (hj : j < qN k) (hf : cfo k j a = none) (hv : v = if crf k j = true then .ref z.toNat else iv z) : qup (hC h1 C) a (.inr (k, ((List.range (qN k)).map (ofv k a C)).set j v)) = hC h1 (u2 C a j z) := by
  have hs : ∀ i : Nat, (u2 C a j z) i (-1) = C i (-1) := fun i => u2_idx (by omega)
  have hcn : ∀ x : Int, (u2 C a j z) 2000000000 x = C 2000000000 x := fun x => u2_bank (by omega)
  refine Prod.ext (funext fun i => ?_) ?_
  · by_cases hi : i = a
    · subst hi
      rw [hC_o (isO_u h (by omega))]
      show (if i = i then _ else _) = _
      rw [if_pos rfl]
      congr 3
      refine List.ext_getElem? fun x => ?_
      rw [List.getElem?_set]
      by_cases hx : j = x
      · subst hx
        rw [if_pos rfl, if_pos (by simpa using hj), List.getElem?_map, List.getElem?_range hj]
        show some v = some (ofv k i (u2 C i j z) j)
        unfold ofv
        rw [hf, hv]
        dsimp only
        rw [u2_same]
      · rw [if_neg hx, List.getElem?_map, List.getElem?_map]
        by_cases hx2 : x < qN k
        · rw [List.getElem?_range hx2]
          show some (ofv k i C x) = some (ofv k i (u2 C i j z) x)
          unfold ofv
          rw [u2_idx (by omega)]
        · rw [List.getElem?_eq_none (by simp; omega)]
          rfl
    · show (if i = a then _ else (hC h1 C).1 i) = _
      rw [if_neg hi]
      have hof : ∀ k', ofv k' i (u2 C a j z) = ofv k' i C := by
        intro k'
        funext x
        unfold ofv
        rw [u2_bank hi]
      show (if C i (-1) = 0 then _ else if C i (-1) < 100 then _ else _) = (if (u2 C a j z) i (-1) = 0 then _ else if (u2 C a j z) i (-1) < 100 then _ else _)
      rw [hs i, hof]
      congr 2
      congr 4
      funext x
      rw [u2_bank hi]
  · show ((C 2000000000 0).toNat, (C 2000000000 1).toNat) = _
    show _ = (((u2 C a j z) 2000000000 0).toNat, ((u2 C a j z) 2000000000 1).toNat)
    rw [hcn, hcn]
/-- a write into an array -/
theorem hC_putA {h1 : qH} {C : qB} {t a x : Nat} {n z : Int} {v : Value} (h : isA C t a n) (ha : a < 1000000000) (ht : t < 4) (hv : v = cav t x z) : qup (hC h1 C) a (.inl (t, n.toNat, updV (fun y => cav t y (C a y)) x v)) = hC h1 (u2 C a x z) := by
  have hs : ∀ i : Nat, (u2 C a x z) i (-1) = C i (-1) := fun i => u2_idx (by omega)
  have hcn : ∀ y : Int, (u2 C a x z) 2000000000 y = C 2000000000 y := fun y => u2_bank (by omega)
  refine Prod.ext (funext fun i => ?_) ?_
  · by_cases hi : i = a
    · subst hi
      rw [hC_a (isA_u h (by omega))]
      show (if i = i then _ else _) = _
      rw [if_pos rfl]
      congr 4
      funext y
      unfold updV
      by_cases hy : y = x
      · rw [if_pos hy, hy, u2_same, hv]
      · rw [if_neg hy, u2_idx (by omega)]
    · show (if i = a then _ else (hC h1 C).1 i) = _
      rw [if_neg hi]
      have hof : ∀ k', ofv k' i (u2 C a x z) = ofv k' i C := by
        intro k'
        funext y
        unfold ofv
        rw [u2_bank hi]
      show (if C i (-1) = 0 then _ else if C i (-1) < 100 then _ else _) = (if (u2 C a x z) i (-1) = 0 then _ else if (u2 C a x z) i (-1) < 100 then _ else _)
      rw [hs i, hof]
      congr 2
      congr 4
      funext y
      rw [u2_bank hi]
  · show ((C 2000000000 0).toNat, (C 2000000000 1).toNat) = (((u2 C a x z) 2000000000 0).toNat, ((u2 C a x z) 2000000000 1).toNat)
    rw [hcn, hcn]
/-- method k at pc, locals L, stack st, memory B, comes to an end for which Q holds -/
def qY (h1 : qH) (d k pc : Nat) (L : List (Option Value)) (st : List Value) (B : qB) (Q : qO → qB → Prop) : Prop := ∃ (N : Nat) (o : qO) (B' : qB), (∀ env, EL env L → q_run N d (q_ms k) pc env st (hC h1 B) = some (o, hC h1 B')) ∧ Q o B'
section QY
variable {h1 : qH} {d k pc : Nat} {L : List (Option Value)} {st : List Value} {B : qB} {Q : qO → qB → Prop} {i : Instr} {len : Nat}
theorem qY.mono {d' : Nat} {Q' : qO → qB → Prop} (h : qY h1 d k pc L st B Q) (hd : d ≤ d') (hq : ∀ o B', Q o B' → Q' o B') : qY h1 d' k pc L st B Q' := by
  obtain ⟨N, o, B', h1, h2⟩ := h
  exact ⟨N, o, B', fun env he => q_run_le _ _ _ _ _ _ _ _ (h1 env he) _ _ (Nat.le_refl _) hd, hq _ _ h2⟩
theorem y_weak {L' : List (Option Value)} (hl : lw L' L) (w : qY h1 d k pc L' st B Q) : qY h1 d k pc L st B Q := by
  obtain ⟨N, o, B', h1, h2⟩ := w
  exact ⟨N, o, B', fun env he => h1 env (fun i v h => he i v (lw_at hl i v h)), h2⟩
theorem y_go {pc' : Nat} {L' : List (Option Value)} {st' : List Value} {B' : qB} (hs : ∀ env, EL env L → ∃ env', q_step (q_ms k) pc env st (hC h1 B) = some (pc', env', st', hC h1 B') ∧ EL env' L') (w : qY h1 d k pc' L' st' B' Q) : qY h1 d k pc L st B Q := by
  obtain ⟨N, o, B2, hr, hq⟩ := w
  refine ⟨N + 1, o, B2, fun env he => ?_, hq⟩
  obtain ⟨env', h1, h2⟩ := hs env he
  exact q_run_step h1 (hr env' h2)
theorem y_op {st' : List Value} (hd : decode (q_ms k).2.2.1 pc = .ok (i, len)) (hl : q_lok i len = true) (ho : q_op i st = some st') (w : qY h1 d k (pc + len) L st' B Q) : qY h1 d k pc L st B Q := by
  refine y_go (fun env he => ⟨env, ?_, he⟩) w
  unfold q_step
  rw [hd]
  dsimp only
  rw [if_pos hl, ho]
theorem y_loc {L' : List (Option Value)} {st' : List Value} (hd : decode (q_ms k).2.2.1 pc = .ok (i, len)) (hl : q_lok i len = true) (ho : q_op i st = none) (hs : ∀ env, EL env L → ∃ env', q_loc (q_ms k).2.2.2.1 i len env st = some (env', st') ∧ EL env' L') (w : qY h1 d k (pc + len) L' st' B Q) : qY h1 d k pc L st B Q := by
  refine y_go (fun env he => ?_) w
  obtain ⟨env', h1, h2⟩ := hs env he
  refine ⟨env', ?_, h2⟩
  unfold q_step
  rw [hd]
  dsimp only
  rw [if_pos hl, ho]
  dsimp only
  rw [h1]
theorem y_ldk {ok : Value → Bool} {n : Nat} {v : Value} (hd : decode (q_ms k).2.2.1 pc = .ok (i, len)) (hl : q_lok i len = true) (ho : q_op i st = none) (hi : ∀ env, q_loc (q_ms k).2.2.2.1 i len env st = q_ldk ok env n st) (hv : L[n]? = some (some v)) (hk : ok v = true) (w : qY h1 d k (pc + len) L (v :: st) B Q) : qY h1 d k pc L st B Q :=
  y_loc hd hl ho (fun env he => ⟨env, by rw [hi]; unfold q_ldk; rw [he n v hv]; dsimp only; rw [if_pos hk], he⟩) w
theorem y_st1 {L' : List (Option Value)} {ok : Value → Bool} {n nL : Nat} {v : Value} (hd : decode (q_ms k).2.2.1 pc = .ok (i, len)) (hl : q_lok i len = true) (ho : ∀ s, q_op i s = none) (hi : ∀ env s, q_loc (q_ms k).2.2.2.1 i len env s = q_st1 ok (q_ms k).2.2.2.1 env n s) (hk : ok v = true) (hnL : (q_ms k).2.2.2.1 = nL) (hn : n < nL) (hc : catOK L[n - 1]?) (hL : L.set n (some v) = L') (w : qY h1 d k (pc + len) L' st B Q) : qY h1 d k pc L (v :: st) B Q :=
  y_loc hd hl (ho _) (fun env he => ⟨q_set env n v, by rw [hi]; unfold q_st1; dsimp only; rw [if_pos ⟨hk, by rw [hnL]; exact hn⟩], by rw [← hL]; exact EL_set he (cat_ok hc)⟩) w
theorem y_st2 {L' : List (Option Value)} {n nL : Nat} {v : Value} (hd : decode (q_ms k).2.2.1 pc = .ok (i, len)) (hl : q_lok i len = true) (ho : ∀ s, q_op i s = none) (hi : ∀ env s, q_loc (q_ms k).2.2.2.1 i len env s = q_st2 (q_ms k).2.2.2.1 env n s) (hk : q_isL v = true) (hnL : (q_ms k).2.2.2.1 = nL) (hn : n + 1 < nL) (hc : catOK L[n - 1]?) (hL : (L.set n (some v)).set (n + 1) none = L') (w : qY h1 d k (pc + len) L' st B Q) : qY h1 d k pc L (v :: st) B Q :=
  y_loc hd hl (ho _) (fun env he => ⟨q_set2 env n v, by rw [hi]; unfold q_st2; dsimp only; rw [if_pos ⟨hk, by rw [hnL]; exact hn⟩], by rw [← hL]; exact EL_set2 he (cat_ok hc)⟩) w
theorem y_iinc {L' : List (Option Value)} {n nL : Nat} {c z : Int} (hd : decode (q_ms k).2.2.1 pc = .ok (.iinc n c, 3)) (hv : L[n]? = some (some (iv z))) (hnL : (q_ms k).2.2.2.1 = nL) (hn : n < nL) (hc : catOK L[n - 1]?) (hL : L.set n (some (iv (z + c))) = L') (w : qY h1 d k (pc + 3) L' st B Q) : qY h1 d k pc L st B Q := by
  refine y_loc hd rfl rfl (fun env he => ⟨q_set env n (iv (z + c)), ?_, by rw [← hL]; exact EL_set he (cat_ok hc)⟩) w
  show (match q_get env n with | some (.int x) => if n < (q_ms k).2.2.2.1 ∧ 3 = 3 then some (q_set env n (.int (x + Int32.ofInt c)), st) else none | _ => none) = _
  rw [he n _ hv]
  show (if n < (q_ms k).2.2.2.1 ∧ 3 = 3 then some (q_set env n (.int (Int32.ofInt z + Int32.ofInt c)), st) else none) = _
  rw [if_pos ⟨by rw [hnL]; exact hn, rfl⟩]
  unfold iv
  rw [Int32.ofInt_add]
theorem y_jmp {pc' : Nat} {st' : List Value} (hd : decode (q_ms k).2.2.1 pc = .ok (i, len)) (hl : q_lok i len = true) (ho : q_op i st = none) (ho2 : ∀ env, q_loc (q_ms k).2.2.2.1 i len env st = none) (hj : q_jmp i pc st = some (pc', st')) (w : qY h1 d k pc' L st' B Q) : qY h1 d k pc L st B Q := by
  refine y_go (fun env he => ⟨env, ?_, he⟩) w
  unfold q_step
  rw [hd]
  dsimp only
  rw [if_pos hl, ho]
  dsimp only
  rw [ho2]
  dsimp only
  rw [hj]
theorem y_mem {st' : List Value} {B' : qB} (hd : decode (q_ms k).2.2.1 pc = .ok (i, len)) (hl : q_lok i len = true) (ho : q_op i st = none) (ho2 : ∀ env, q_loc (q_ms k).2.2.2.1 i len env st = none) (hj : q_jmp i pc st = none) (hm : q_mem (q_ms k).2.1 ((q_ms k).1 == 2) i st (hC h1 B) = some (st', hC h1 B')) (w : qY h1 d k (pc + len) L st' B' Q) : qY h1 d k pc L st B Q := by
  refine y_go (fun env he => ⟨env, ?_, he⟩) w
  unfold q_step
  rw [hd]
  dsimp only
  rw [if_pos hl, ho]
  dsimp only
  rw [ho2]
  dsimp only
  rw [hj]
  dsimp only
  rw [hm]
end QY
section YWK
variable {h1 : qH} {d k pc : Nat} {L : List (Option Value)} {st : List Value} {B : qB} {Q : qO → qB → Prop}
theorem y_wk {L' : List (Option Value)} (w : qY h1 d k pc L' st B Q) (hl : lw L' L) : qY h1 d k pc L st B Q := y_weak hl w
end YWK
section YR
variable {h1 : qH} {d k pc : Nat} {L : List (Option Value)} {st : List Value} {B : qB} {Q : qO → qB → Prop}
theorem y_goto {off : Int} {t : Nat} (hd : decode (q_ms k).2.2.1 pc = .ok (.goto off, 3)) (ht : q_tgt pc off = some t) (w : qY h1 d k t L st B Q) : qY h1 d k pc L st B Q :=
  y_jmp hd rfl rfl (fun _ => rfl) (by show (match q_tgt pc off with | some t => some (t, st) | none => none) = _; rw [ht]) w
theorem y_icmp {c : ClassFile.Cond} {off : Int} {t : Nat} {x y : Int} (hd : decode (q_ms k).2.2.1 pc = .ok (.if_icmp c off, 3)) (ht : q_tgt pc off = some t) (hx : R32 x) (hy : R32 y) (w1 : cP c x y → qY h1 d k t L st B Q) (w2 : cN c x y → qY h1 d k (pc + 3) L st B Q) : qY h1 d k pc L (iv y :: iv x :: st) B Q := by
  have hj : q_jmp (.if_icmp c off) pc (iv y :: iv x :: st) = some (if q_cmp c (Int32.ofInt x) (Int32.ofInt y) = true then t else pc + 3, st) := by
    show q_br (q_cmp c (Int32.ofInt x) (Int32.ofInt y)) pc off st = _
    unfold q_br
    rw [ht]
  by_cases h : q_cmp c (Int32.ofInt x) (Int32.ofInt y) = true
  · rw [if_pos h] at hj
    exact y_jmp hd rfl rfl (fun _ => rfl) hj (w1 (cmp_P hx hy h))
  · rw [if_neg h] at hj
    exact y_jmp hd rfl rfl (fun _ => rfl) hj (w2 (cmp_N hx hy h))
theorem y_ifz {c : ClassFile.Cond} {off : Int} {t : Nat} {x : Int} (hd : decode (q_ms k).2.2.1 pc = .ok (.ifCond c off, 3)) (ht : q_tgt pc off = some t) (hx : R32 x) (w1 : cP c x 0 → qY h1 d k t L st B Q) (w2 : cN c x 0 → qY h1 d k (pc + 3) L st B Q) : qY h1 d k pc L (iv x :: st) B Q := by
  have hy : R32 0 := ⟨by omega, by omega⟩
  have hj : q_jmp (.ifCond c off) pc (iv x :: st) = some (if q_cmp c (Int32.ofInt x) (Int32.ofInt 0) = true then t else pc + 3, st) := by
    show q_br (q_cmp c (Int32.ofInt x) 0) pc off st = _
    unfold q_br
    rw [ht]
    rfl
  by_cases h : q_cmp c (Int32.ofInt x) (Int32.ofInt 0) = true
  · rw [if_pos h] at hj
    exact y_jmp hd rfl rfl (fun _ => rfl) hj (w1 (cmp_P hx hy h))
  · rw [if_neg h] at hj
    exact y_jmp hd rfl rfl (fun _ => rfl) hj (w2 (cmp_N hx hy h))
theorem y_end {o : qO} {i : Instr} {len : Nat} {v : Option Value} (hd : decode (q_ms k).2.2.1 pc = .ok (i, len)) (hl : q_lok i len = true) (ho : q_op i st = none) (ho2 : ∀ env, q_loc (q_ms k).2.2.2.1 i len env st = none) (hj : q_jmp i pc st = none) (hmm : q_mem (q_ms k).2.1 ((q_ms k).1 == 2) i st (hC h1 B) = none) (hr : q_ret (q_ms k).2.2.2.2.1 i st = some v) (w : Q (.inl v) B) : qY h1 d k pc L st B Q := by
  refine ⟨1, .inl v, B, fun env _ => ?_, w⟩
  unfold q_run
  rw [hd]
  dsimp only
  rw [if_pos hl, ho]
  dsimp only
  rw [ho2]
  dsimp only
  rw [hj]
  dsimp only
  rw [hmm]
  dsimp only
  rw [hr]
theorem y_retI {z : Int} (hd : decode (q_ms k).2.2.1 pc = .ok (.ireturn, 1)) (hrt : (q_ms k).2.2.2.2.1 = some .int) (w : Q (.inl (some (iv z))) B) : qY h1 d k pc L [iv z] B Q :=
  y_end (o := .inl none) hd rfl rfl (fun _ => rfl) rfl rfl (by rw [hrt]; show (if narrow .int (iv z) = iv z then some (some (iv z)) else none) = _; exact if_pos rfl) w
theorem y_retZ {z : Int} (hd : decode (q_ms k).2.2.1 pc = .ok (.ireturn, 1)) (hrt : (q_ms k).2.2.2.2.1 = some .boolean) (hz : z = 0 ∨ z = 1) (w : Q (.inl (some (iv z))) B) : qY h1 d k pc L [iv z] B Q :=
  y_end (o := .inl none) hd rfl rfl (fun _ => rfl) rfl rfl (by rw [hrt]; rcases hz with rfl | rfl <;> rfl) w
theorem y_retL {z : Int} (hd : decode (q_ms k).2.2.1 pc = .ok (.lreturn, 1)) (hrt : (q_ms k).2.2.2.2.1 = some .long) (w : Q (.inl (some (wv z))) B) : qY h1 d k pc L [wv z] B Q :=
  y_end (o := .inl none) hd rfl rfl (fun _ => rfl) rfl rfl (by rw [hrt]; rfl) w
theorem y_ret0 (hd : decode (q_ms k).2.2.1 pc = .ok (.return_, 1)) (hrt : (q_ms k).2.2.2.2.1 = none) (w : Q (.inl none) B) : qY h1 d k pc L [] B Q :=
  y_end (o := .inl none) hd rfl rfl (fun _ => rfl) rfl rfl (by rw [hrt]; rfl) w
theorem y_call {k' : Nat} {as r : List Value} {i : Instr} (hd : decode (q_ms k).2.2.1 pc = .ok (i, 3)) (hl : q_lok i 3 = true) (ho : q_op i st = none) (ho2 : ∀ env, q_loc (q_ms k).2.2.2.1 i 3 env st = none) (hj : q_jmp i pc st = none) (hmm : q_mem (q_ms k).2.1 ((q_ms k).1 == 2) i st (hC h1 B) = none) (hr : q_ret (q_ms k).2.2.2.2.1 i st = none) (hth : q_throw (q_ms k).2.1 (q_ms k).2.2.1 pc i st = none) (hinv : q_inv (q_ms k).2.1 i st (hC h1 B) = some (k', as, r))
    (hsl : (lg_sl as).length ≤ (q_ms k').2.2.2.1 ∧ (q_ms k').2.2.2.1 ≤ 80 ∧ (r.map fun v => v.category).sum ≤ 8) {n : Nat} (hcat : ∀ v ∈ as, v.category = 1) (w : qY h1 d k' 0 (as.map some ++ List.replicate n none) [] B (fun o B' => ∃ v, o = .inl v ∧ qY h1 (d + 1) k (pc + 3) L (v.toList ++ r) B' Q)) : qY h1 (d + 1) k pc L st B Q := by
  obtain ⟨N1, o1, B1, h1, v, rfl, N2, o2, B2, h2, hq⟩ := w
  refine ⟨max N1 N2 + 1, o2, B2, fun env he => ?_, hq⟩
  have c1 := q_run_le _ _ _ _ _ _ _ _ (h1 (lv_args 0 as) (fun i v h => by have := EL_args as 0 n hcat i v h; rwa [Nat.zero_add] at this)) (max N1 N2) d (Nat.le_max_left ..) (Nat.le_refl _)
  have c2 := q_run_le _ _ _ _ _ _ _ _ (h2 env he) (max N1 N2) (d + 1) (Nat.le_max_right ..) (Nat.le_refl _)
  unfold q_run
  rw [hd]
  dsimp only
  rw [if_pos hl, ho]
  dsimp only
  rw [ho2]
  dsimp only
  rw [hj]
  dsimp only
  rw [hmm]
  dsimp only
  rw [hr]
  dsimp only
  rw [hth]
  dsimp only
  rw [hinv]
  dsimp only
  rw [if_pos hsl, c1]
  exact c2
end YR
