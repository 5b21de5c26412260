/-! THE CLASS: more rules -/
section CR2
variable {h1 : qH} {d k pc : Nat} {L : List (Option Value)} {st : List Value} {B : qB} {Q : qO → qB → Prop}
/-- a switch: one of its cases -/
theorem y_swc {i : Instr} {len t : Nat} {x c : Int} (hd : decode (q_ms k).2.2.1 pc = .ok (i, len)) (hl : q_lok i len = true) (ho : ∀ s, q_op i s = none) (ho2 : ∀ env s, q_loc (q_ms k).2.2.2.1 i len env s = none) (hx : x = c) (hj : q_jmp i pc (iv c :: st) = some (t, st)) (w : qY h1 d k t L st B Q) : qY h1 d k pc L (iv x :: st) B Q := by
  subst hx
  exact y_jmp hd hl (ho _) (fun env => ho2 env _) hj w
theorem y_tswd {dflt lo hi x : Int} {offs : Array Int} {len t : Nat} (hd : decode (q_ms k).2.2.1 pc = .ok (.tableswitch dflt lo hi offs, len)) (hx : R32 x) (h : x < lo ∨ hi < x) (ht : q_tgt pc dflt = some t) (w : qY h1 d k t L st B Q) : qY h1 d k pc L (iv x :: st) B Q := by
  refine y_jmp hd rfl rfl (fun _ => rfl) ?_ w
  show (if (Int32.ofInt x).toInt < lo ∨ hi < (Int32.ofInt x).toInt then (q_tgt pc dflt).map (fun t => (t, st)) else _) = _
  rw [i32_in hx, if_pos h, ht]
  rfl
theorem lsw_none {x dflt : Int} : ∀ (l : List (Int × Int)), (∀ e ∈ l, x ≠ e.1) → Op.lookupswitch.offset l dflt x = dflt := by
  intro l
  induction l with
  | nil => intro _; rfl
  | cons e r ih =>
    intro h
    obtain ⟨a, o⟩ := e
    rw [Op.lookupswitch.offset_cons, if_neg (fun q => h (a, o) (List.mem_cons_self ..) q.symm)]
    exact ih (fun e he => h e (List.mem_cons_of_mem _ he))
theorem y_lswd {dflt x : Int} {ps : Array (Int × Int)} {len t : Nat} (hd : decode (q_ms k).2.2.1 pc = .ok (.lookupswitch dflt ps, len)) (hx : R32 x) (hs : (ps.toList.zip (ps.toList.drop 1)).all (fun (a, next) => a.1 < next.1) = true) (h : ∀ e ∈ ps.toList, x ≠ e.1) (ht : q_tgt pc dflt = some t) (w : qY h1 d k t L st B Q) : qY h1 d k pc L (iv x :: st) B Q := by
  refine y_jmp hd rfl rfl (fun _ => rfl) ?_ w
  show (if (ps.toList.zip (ps.toList.drop 1)).all (fun (a, next) => a.1 < next.1) = true then (q_tgt pc (Op.lookupswitch.offset ps.toList dflt (Int32.ofInt x).toInt)).map (fun t => (t, st)) else none) = _
  rw [if_pos hs, i32_in hx, lsw_none _ h, ht]
  rfl
theorem y_ifnn {off : Int} {t a : Nat} (hd : decode (q_ms k).2.2.1 pc = .ok (.ifnonnull off, 3)) (ht : q_tgt pc off = some t) (w : qY h1 d k t L st B Q) : qY h1 d k pc L (.ref a :: st) B Q := by
  refine y_jmp hd rfl rfl (fun _ => rfl) ?_ w
  show q_br true pc off st = _
  unfold q_br
  rw [ht]
  rfl
theorem y_getst {idx : Nat} (hd : decode (q_ms k).2.2.1 pc = .ok (.getstatic idx, 3)) (hown : (q_ms k).2.1 = 7) (hi : idx = 27) (w : qY h1 d k (pc + 3) L (.ref 1000000000 :: st) B Q) : qY h1 d k pc L st B Q := by
  refine y_mem hd rfl rfl (fun _ => rfl) rfl ?_ w
  show (if (q_ms k).2.1 = 7 ∧ idx = 27 then some (Value.ref 1000000000 :: st, hC h1 B) else none) = _
  rw [if_pos ⟨hown, hi⟩]
theorem o_i2b {x : Int} {r : List Value} : q_op .i2b (iv x :: r) = some (iv (nB x) :: r) := by
  rw [← nar_B]
  rfl
theorem y_retR {a : Nat} {ty : FieldType} (hd : decode (q_ms k).2.2.1 pc = .ok (.areturn, 1)) (hrt : (q_ms k).2.2.2.2.1 = some ty) (hr : q_ret (some ty) .areturn [.ref a] = some (some (.ref a))) (w : Q (.inl (some (.ref a))) B) : qY h1 d k pc L [.ref a] B Q :=
  y_end (o := .inl none) hd rfl rfl (fun _ => rfl) rfl rfl (by rw [hrt]; exact hr) w
/-- a call of java.util.Arrays: it comes back -/
theorem y_stat3 {idx own k' np n : Nat} {as r : List Value} (hd : decode (q_ms k).2.2.1 pc = .ok (.invokestatic idx, 3)) (hown : (q_ms k).2.1 = own) (hmt : q_mth own idx = some k') (hmm : q_mm own idx = none ∧ q_cpy own idx = false) (hk : (q_ms k').1 = 3 ∧ (q_ms k').2.2.2.2.2.1 = np) (hlen : as.length = np) {nL : Nat} (hN : (q_ms k').2.2.2.1 = nL) (hs1 : Nat.ble (lg_sl as).length nL = true) (hs2 : Nat.ble nL 80 = true) (hs3 : Nat.ble (r.map fun v => v.category).sum 8 = true) (hcat : as.all (fun v => v.category == 1) = true)
    (w : qY h1 d k' 0 (as.map some ++ List.replicate n none) [] B (fun o B' => ∃ v, o = .inl v ∧ qY h1 (d + 1) k (pc + 3) L (v.toList ++ r) B' Q)) : qY h1 (d + 1) k pc L (as.reverse ++ r) B Q := by
  obtain ⟨e1, e3⟩ := hk
  refine y_call hd rfl rfl (fun _ => rfl) rfl ?_ rfl rfl ?_ ⟨by rw [hN]; exact Nat.le_of_ble_eq_true hs1, by rw [hN]; exact Nat.le_of_ble_eq_true hs2, Nat.le_of_ble_eq_true hs3⟩ (n := n) (fun v hv => by simpa using List.all_eq_true.mp hcat v hv) w
  · show (match q_mm (q_ms k).2.1 idx with | some b => _ | none => if q_cpy (q_ms k).2.1 idx = true then _ else none) = none
    rw [hown, hmm.1, hmm.2]
    rfl
  · show (match q_mth (q_ms k).2.1 idx with | some k => _ | none => _) = _
    rw [hown, hmt]
    dsimp only
    have hl2 : as.reverse.length = np := by rw [List.length_reverse]; exact hlen
    rw [e1, e3, if_pos ⟨Or.inr rfl, by simp; omega⟩, List.take_left' hl2, List.drop_left' hl2, List.reverse_reverse]
/-- n elements from place sp of row a0 to place dp of row a1 -/
def cpC (B : qB) (a0 : Nat) (sp : Int) (a1 : Nat) (dp n : Int) : qB := fun b x => if b = a1 ∧ dp ≤ x ∧ x < dp + n then B a0 (x - dp + sp) else B b x
theorem y_copy {idx own a0 a1 : Nat} {sp dp n : Int} (hd : decode (q_ms k).2.2.1 pc = .ok (.invokestatic idx, 3)) (hown : (q_ms k).2.1 = own) (hmm : q_mm own idx = none ∧ q_cpy own idx = true) (hs : Nat.ble (st.map fun v => v.category).sum 8 = true) (w : ∃ t n0 n1, t < 2 ∧ isA B t a0 n0 ∧ isA B t a1 n1 ∧ n0 ≤ 67108864 ∧ n1 ≤ 67108864 ∧ a0 < 1000000000 ∧ a1 < 1000000000 ∧ 0 ≤ sp ∧ 0 ≤ dp ∧ 0 ≤ n ∧ sp + n ≤ n0 ∧ dp + n ≤ n1 ∧ (t = 0 → ∀ x, sp ≤ x → x < sp + n → -128 ≤ B a0 x ∧ B a0 x ≤ 127) ∧ qY h1 d k (pc + 3) L st (cpC B a0 sp a1 dp n) Q) : qY h1 d k pc L (iv n :: iv dp :: .ref a1 :: iv sp :: .ref a0 :: st) B Q := by
  obtain ⟨t, n0, n1, ht, hA0, hA1, m0, m1, z0, z1, s0, d0, nn, e1, e2, hby, w⟩ := w
  refine y_mem hd rfl rfl (fun _ => rfl) rfl ?_ w
  show (match q_mm (q_ms k).2.1 idx with | some b => _ | none => if q_cpy (q_ms k).2.1 idx = true then q_copy (iv n :: iv dp :: .ref a1 :: iv sp :: .ref a0 :: st) (hC h1 B) else none) = _
  rw [hown, hmm.1]
  dsimp only
  rw [if_pos hmm.2]
  show (match (hC h1 B).1 a0 with | some (.inl (t0, n0, f)) => _ | _ => _) = _
  rw [hC_a hA0]
  dsimp only
  rw [hC_a hA1]
  dsimp only
  have lt0 : ∀ z : Int, 0 ≤ z → z ≤ 67108864 → ¬ Int32.ofInt z < 0 := fun z h1 h2 => by
    rw [Int32.lt_iff_toInt_lt, i32_in ⟨by omega, by omega⟩]
    show ¬ z < 0
    omega
  rw [i32_nat (z := n) ⟨by omega, by omega⟩, i32_nat (z := sp) ⟨by omega, by omega⟩, i32_nat (z := dp) ⟨by omega, by omega⟩]
  have hall : (List.range n.toNat).all (fun i => fits (q_cty t) (cav t (sp.toNat + i) (B a0 ((sp.toNat + i : Nat) : Int)))) = true := by
    rw [List.all_eq_true]
    intro i hi
    have hi' : i < n.toNat := List.mem_range.mp hi
    have ht2 : t = 0 ∨ t = 1 := by omega
    rcases ht2 with rfl | rfl
    · have hb := hby rfl ((sp.toNat + i : Nat) : Int) (by omega) (by omega)
      show (decide (-128 ≤ Int32.ofInt (B a0 ((sp.toNat + i : Nat) : Int))) && decide (Int32.ofInt (B a0 ((sp.toNat + i : Nat) : Int)) ≤ 127)) = true
      generalize B a0 ((sp.toNat + i : Nat) : Int) = v at hb
      have e1 : (-128 : Int32) ≤ Int32.ofInt v := by
        rw [Int32.le_iff_toInt_le, i32_in ⟨by omega, by omega⟩]
        show -128 ≤ v
        omega
      have e2 : Int32.ofInt v ≤ (127 : Int32) := by
        rw [Int32.le_iff_toInt_le, i32_in ⟨by omega, by omega⟩]
        show v ≤ 127
        omega
      rw [decide_eq_true e1, decide_eq_true e2]
      rfl
    · rfl
  rw [if_pos ⟨rfl, ht, z1, z0, lt0 sp s0 (by omega), lt0 dp d0 (by omega), lt0 n nn (by omega), by omega, by omega, hall, Nat.le_of_ble_eq_true hs⟩]
  congr 2
  have hs' : ∀ i : Nat, (cpC B a0 sp a1 dp n) i (-1) = B i (-1) := fun i => by unfold cpC; rw [if_neg (by omega)]
  have hcn : ∀ y : Int, (cpC B a0 sp a1 dp n) 2000000000 y = B 2000000000 y := fun y => by unfold cpC; rw [if_neg (by omega)]
  refine Prod.ext (funext fun i => ?_) ?_
  · show (if i = a1 then _ else (hC h1 B).1 i) = _
    by_cases hi : i = a1
    · rw [if_pos hi]
      have hA : isA (cpC B a0 sp a1 dp n) t i n1 := ⟨by rw [hs', hi]; exact hA1.1, hA1.2⟩
      rw [hC_a hA]
      congr 4
      funext x
      show va_cpy (fun x => cav t x (B a0 x)) (fun x => cav t x (B a1 x)) sp.toNat dp.toNat n.toNat x = cav t x (cpC B a0 sp a1 dp n i x)
      unfold va_cpy cpC
      have hcv : ∀ (y : Nat) (z : Int), cav t y z = iv z := fun y z => by unfold cav; rw [if_neg (by omega), if_neg (by omega), if_neg (by omega)]
      by_cases hc : dp.toNat ≤ x ∧ x < dp.toNat + n.toNat
      · rw [if_pos hc, if_pos ⟨hi, by omega, by omega⟩]
        show cav t (sp.toNat + (x - dp.toNat)) (B a0 ((sp.toNat + (x - dp.toNat) : Nat) : Int)) = _
        rw [hcv, hcv, show ((sp.toNat + (x - dp.toNat) : Nat) : Int) = (x : Int) - dp + sp by omega]
      · rw [if_neg hc, if_neg (by omega), hi]
    · rw [if_neg hi]
      have hsi : ∀ x : Int, cpC B a0 sp a1 dp n i x = B i x := fun x => by unfold cpC; rw [if_neg (fun q => hi q.1)]
      have hof : ∀ k', ofv k' i (cpC B a0 sp a1 dp n) = ofv k' i B := by
        intro k'
        funext x
        unfold ofv
        rw [hsi]
      show (if B i (-1) = 0 then _ else if B i (-1) < 100 then _ else _) = (if cpC B a0 sp a1 dp n i (-1) = 0 then _ else if cpC B a0 sp a1 dp n i (-1) < 100 then _ else _)
      rw [hsi, hof]
      congr 2
      congr 4
      funext x
      rw [hsi]
  · show ((B 2000000000 0).toNat, (B 2000000000 1).toNat) = ((cpC B a0 sp a1 dp n 2000000000 0).toNat, (cpC B a0 sp a1 dp n 2000000000 1).toNat)
    rw [hcn, hcn]
end CR2
