/-! THE CLASS: rules for fields, arrays, calls, throws -/
section CR
variable {h1 : qH} {d k pc : Nat} {L : List (Option Value)} {st : List Value} {B : qB} {Q : qO → qB → Prop}
theorem of_at {K a j : Nat} (hj : j < qN K) : ((List.range (qN K)).map (ofv K a B))[j]? = some (ofv K a B j) := by
  rw [List.getElem?_map, List.getElem?_range hj]; rfl
theorem y_getf {idx own K j a : Nat} {v : Value} (hd : decode (q_ms k).2.2.1 pc = .ok (.getfield idx, 3)) (hown : (q_ms k).2.1 = own) (hf : q_fld own idx = some (K, j)) (hj : Nat.blt j (qN K) = true) (ho : isO B K a) (hv : ofv K a B j = v) (w : qY h1 d k (pc + 3) L (v :: st) B Q) : qY h1 d k pc L (.ref a :: st) B Q := by
  refine y_mem hd rfl rfl (fun _ => rfl) rfl ?_ w
  show q_getf (q_ms k).2.1 idx (.ref a :: st) (hC h1 B) = _
  unfold q_getf
  rw [hown, hf]
  dsimp only
  rw [hC_o ho]
  dsimp only
  rw [if_pos rfl, of_at (Nat.blt_eq.mp hj), hv]
/-- a number -/
theorem y_getI {idx own K j a : Nat} (hd : decode (q_ms k).2.2.1 pc = .ok (.getfield idx, 3)) (hown : (q_ms k).2.1 = own) (hf : q_fld own idx = some (K, j)) (hj : Nat.blt j (qN K) = true) (hc : cfo K j a = none) (hr : crf K j = false) (w : isO B K a ∧ qY h1 d k (pc + 3) L (iv (B a j) :: st) B Q) : qY h1 d k pc L (.ref a :: st) B Q :=
  y_getf hd hown hf hj w.1 (by unfold ofv; rw [hc, hr]; rfl) w.2
/-- a reference that never changes -/
theorem y_getF {idx own K j a r : Nat} (hd : decode (q_ms k).2.2.1 pc = .ok (.getfield idx, 3)) (hown : (q_ms k).2.1 = own) (hf : q_fld own idx = some (K, j)) (hj : Nat.blt j (qN K) = true) (hc : cfo K j a = some r) (w : isO B K a ∧ qY h1 d k (pc + 3) L (.ref r :: st) B Q) : qY h1 d k pc L (.ref a :: st) B Q :=
  y_getf hd hown hf hj w.1 (by unfold ofv; rw [hc]) w.2
/-- a reference that changes -/
theorem y_getD {idx own K j a : Nat} (hd : decode (q_ms k).2.2.1 pc = .ok (.getfield idx, 3)) (hown : (q_ms k).2.1 = own) (hf : q_fld own idx = some (K, j)) (hj : Nat.blt j (qN K) = true) (hc : cfo K j a = none) (hr : crf K j = true) (w : isO B K a ∧ qY h1 d k (pc + 3) L (.ref (B a j).toNat :: st) B Q) : qY h1 d k pc L (.ref a :: st) B Q :=
  y_getf hd hown hf hj w.1 (by unfold ofv; rw [hc, hr]; rfl) w.2
theorem y_put {idx own K j a : Nat} {z : Int} {v : Value} (hd : decode (q_ms k).2.2.1 pc = .ok (.putfield idx, 3)) (hown : (q_ms k).2.1 = own) (hf : q_fld own idx = some (K, j)) (hj : Nat.blt j (qN K) = true) (hc : cfo K j a = none) (hv : v = if crf K j = true then .ref z.toNat else iv z) (hfit : q_fit (qTy K j) v = true) (hnf : (qF K j).2.2.2 = false) (w : (isO B K a ∧ a < 1000000000) ∧ qY h1 d k (pc + 3) L st (u2 B a j z) Q) : qY h1 d k pc L (v :: .ref a :: st) B Q := by
  obtain ⟨⟨ho, ha⟩, w⟩ := w
  refine y_mem hd rfl rfl (fun _ => rfl) rfl ?_ w
  show q_putf (q_ms k).2.1 _ idx (v :: .ref a :: st) (hC h1 B) = _
  unfold q_putf
  rw [hown, hf]
  dsimp only
  rw [hC_o ho]
  dsimp only
  have hl : j < (List.map (ofv K a B) (List.range (qN K))).length := by simpa using Nat.blt_eq.mp hj
  rw [if_pos ⟨rfl, ha, hl, hfit, Or.inl hnf⟩, hC_putF ho ha (Nat.blt_eq.mp hj) hc hv]
theorem y_putI {idx own K j a : Nat} {z : Int} (hd : decode (q_ms k).2.2.1 pc = .ok (.putfield idx, 3)) (hown : (q_ms k).2.1 = own) (hf : q_fld own idx = some (K, j)) (hj : Nat.blt j (qN K) = true) (hc : cfo K j a = none) (hr : crf K j = false) (hty : qTy K j = .int) (hnf : (qF K j).2.2.2 = false) (w : (isO B K a ∧ a < 1000000000) ∧ qY h1 d k (pc + 3) L st (u2 B a j z) Q) : qY h1 d k pc L (iv z :: .ref a :: st) B Q :=
  y_put hd hown hf hj hc (by rw [hr]; rfl) (by rw [hty]; exact fit_I) hnf w
theorem y_putZ {idx own K j a : Nat} {z : Int} (hd : decode (q_ms k).2.2.1 pc = .ok (.putfield idx, 3)) (hown : (q_ms k).2.1 = own) (hf : q_fld own idx = some (K, j)) (hj : Nat.blt j (qN K) = true) (hc : cfo K j a = none) (hr : crf K j = false) (hty : qTy K j = .boolean) (hnf : (qF K j).2.2.2 = false) (w : (z = 0 ∨ z = 1) ∧ (isO B K a ∧ a < 1000000000) ∧ qY h1 d k (pc + 3) L st (u2 B a j z) Q) : qY h1 d k pc L (iv z :: .ref a :: st) B Q :=
  y_put hd hown hf hj hc (by rw [hr]; rfl) (by rw [hty]; exact fit_Z w.1) hnf w.2
theorem fit_R {ty : FieldType} {b : Nat} (h : narrow ty (.ref b) = .ref b) (h2 : fits ty (.ref b) = true) : q_fit ty (.ref b) = true := by
  unfold q_fit
  rw [h, h2]
  simp
theorem y_putR {idx own K j a b : Nat} (hd : decode (q_ms k).2.2.1 pc = .ok (.putfield idx, 3)) (hown : (q_ms k).2.1 = own) (hf : q_fld own idx = some (K, j)) (hj : Nat.blt j (qN K) = true) (hc : cfo K j a = none) (hr : crf K j = true) (hn : narrow (qTy K j) (.ref b) = .ref b) (hfi : fits (qTy K j) (.ref b) = true) (hnf : (qF K j).2.2.2 = false) (w : (isO B K a ∧ a < 1000000000) ∧ qY h1 d k (pc + 3) L st (u2 B a j b) Q) : qY h1 d k pc L (.ref b :: .ref a :: st) B Q :=
  y_put (z := b) hd hown hf hj hc (by rw [hr]; rfl) (fit_R hn hfi) hnf w
theorem idx_ok2 {z : Int} {n : Nat} (h1 : 0 ≤ z) (h2 : z < n) (hn : n ≤ 67108864) : q_idx (Int32.ofInt z) n = true ∧ (((Int32.ofInt z).toNatClampNeg : Nat) : Int) = z := by
  have hR : R32 z := ⟨by omega, by omega⟩
  unfold q_idx
  rw [i32_nat hR]
  have : ¬ Int32.ofInt z < 0 := by
    rw [Int32.lt_iff_toInt_lt, i32_in hR]
    show ¬ z < 0
    omega
  simp [this]
  omega
theorem cald_ok {ok : Nat → Bool} {t a : Nat} {n z : Int} (ha : isA B t a n) (hn : n ≤ 67108864) (hk : ok t = true) (z0 : 0 ≤ z) (z1 : z < n) : q_ald ok (iv z :: .ref a :: st) (hC h1 B) = some (cav t z.toNat (B a z) :: st, hC h1 B) := by
  obtain ⟨h3, h4⟩ := idx_ok2 (n := n.toNat) z0 (by omega) (by omega)
  show (match (hC h1 B).1 a with | some (.inl (t, n, f)) => _ | _ => _) = _
  rw [hC_a ha]
  dsimp only
  rw [if_pos ⟨hk, h3⟩]
  have : (Int32.ofInt z).toNatClampNeg = z.toNat := by omega
  rw [this, show (((z.toNat : Nat) : Int)) = z by omega]
/-- elements: type 1 numbers, 0 bytes -/
theorem y_iald {a : Nat} {z : Int} (hd : decode (q_ms k).2.2.1 pc = .ok (.iaload, 1)) (w : ∃ n, isA B 1 a n ∧ n ≤ 67108864 ∧ 0 ≤ z ∧ z < n ∧ qY h1 d k (pc + 1) L (iv (B a z) :: st) B Q) : qY h1 d k pc L (iv z :: .ref a :: st) B Q := by
  obtain ⟨n, ha, hn, z0, z1, w⟩ := w
  exact y_mem hd rfl rfl (fun _ => rfl) rfl (cald_ok (ok := fun t => t == 1) ha hn rfl z0 z1) w
theorem y_bald {a : Nat} {z : Int} (hd : decode (q_ms k).2.2.1 pc = .ok (.baload, 1)) (w : ∃ n, isA B 0 a n ∧ n ≤ 67108864 ∧ 0 ≤ z ∧ z < n ∧ qY h1 d k (pc + 1) L (iv (B a z) :: st) B Q) : qY h1 d k pc L (iv z :: .ref a :: st) B Q := by
  obtain ⟨n, ha, hn, z0, z1, w⟩ := w
  exact y_mem hd rfl rfl (fun _ => rfl) rfl (cald_ok (ok := fun t => t == 0 || t == 3) ha hn rfl z0 z1) w
/-- texts and patterns: rows of references that never change -/
theorem y_aald {t a : Nat} {z : Int} (hd : decode (q_ms k).2.2.1 pc = .ok (.aaload, 1)) (ht : t = 4 ∨ t = 5) (w : ∃ n, isA B t a n ∧ (n ≤ 67108864 ∧ (t = 4 → n ≤ 4) ∧ (t = 5 → n ≤ 8)) ∧ 0 ≤ z ∧ z < n ∧ qY h1 d k (pc + 1) L (.ref (if t = 4 then 75 + 2 * z.toNat else if z.toNat = 0 then 1 else 2 + 9 * z.toNat) :: st) B Q) : qY h1 d k pc L (iv z :: .ref a :: st) B Q := by
  obtain ⟨n, ha, hn, z0, z1, w⟩ := w
  refine y_mem hd rfl rfl (fun _ => rfl) rfl (cald_ok (ok := fun t => t == 4 || t == 5) ha hn.1 (by rcases ht with rfl | rfl <;> rfl) z0 z1) ?_
  rcases ht with rfl | rfl
  · have e : cav 4 z.toNat (B a z) = .ref (75 + 2 * z.toNat) := by
      have := hn.2.1 rfl
      unfold cav
      rw [if_neg (by decide), if_pos rfl, if_pos (by omega)]
    rw [e]
    exact w
  · have e : cav 5 z.toNat (B a z) = .ref (if z.toNat = 0 then 1 else 2 + 9 * z.toNat) := by
      have := hn.2.2 rfl
      unfold cav
      rw [if_neg (by decide), if_neg (by decide), if_pos rfl, if_pos (by omega)]
    rw [e]
    exact w
theorem y_alen {a : Nat} (hd : decode (q_ms k).2.2.1 pc = .ok (.arraylength, 1)) (w : ∃ t n, isA B t a n ∧ n ≤ 67108864 ∧ qY h1 d k (pc + 1) L (iv n :: st) B Q) : qY h1 d k pc L (.ref a :: st) B Q := by
  obtain ⟨t, n, ha, hn, w⟩ := w
  refine y_mem hd rfl rfl (fun _ => rfl) rfl ?_ w
  show (match (hC h1 B).1 a with | some (.inl (t, n, _)) => _ | _ => _) = _
  rw [hC_a ha]
  dsimp only
  rw [if_pos ha.2.1]
  have : (.int (nI n.toNat) : Value) = iv n := by
    unfold iv nI
    have e : n = ((n.toNat : Nat) : Int) := by have := ha.2.2; omega
    have e2 : Int32.ofInt n = Int32.ofInt ((n.toNat : Nat) : Int) := congrArg Int32.ofInt e
    rw [e2, Int32.ofInt_eq_ofNat]
  rw [this]
theorem y_iast {a : Nat} {z v : Int} (hd : decode (q_ms k).2.2.1 pc = .ok (.iastore, 1)) (w : ∃ n, isA B 1 a n ∧ n ≤ 67108864 ∧ 0 ≤ z ∧ z < n ∧ a < 1000000000 ∧ qY h1 d k (pc + 1) L st (u2 B a z v) Q) : qY h1 d k pc L (iv v :: iv z :: .ref a :: st) B Q := by
  obtain ⟨n, ha, hn, z0, z1, a9, w⟩ := w
  obtain ⟨h3, h4⟩ := idx_ok2 (n := n.toNat) z0 (by omega) (by omega)
  refine y_mem hd rfl rfl (fun _ => rfl) rfl ?_ w
  show (match (hC h1 B).1 a with | some (.inl (t, n, f)) => _ | _ => _) = _
  rw [hC_a ha]
  dsimp only
  rw [if_pos ⟨rfl, a9, h3⟩]
  have e := hC_putA (h1 := h1) (C := B) (x := (Int32.ofInt z).toNatClampNeg) (z := v) (v := iv v) ha a9 (by decide) rfl
  rw [h4] at e
  rw [← e]
  rfl
/-- a byte is stored: its lowest eight bits, with sign -/
def nB (v : Int) : Int := match narrow .byte (iv v) with
  | .int x => x.toInt
  | _ => 0
theorem nar_B (v : Int) : narrow .byte (iv v) = iv (nB v) := by
  unfold nB
  cases h : narrow .byte (iv v) with
  | int x => show _ = iv x.toInt; rw [iv_toInt]
  | _ => exact absurd h (by unfold iv narrow; simp)
theorem y_bast {a : Nat} {z v : Int} (hd : decode (q_ms k).2.2.1 pc = .ok (.bastore, 1)) (w : ∃ n, isA B 0 a n ∧ n ≤ 67108864 ∧ 0 ≤ z ∧ z < n ∧ a < 1000000000 ∧ qY h1 d k (pc + 1) L st (u2 B a z (nB v)) Q) : qY h1 d k pc L (iv v :: iv z :: .ref a :: st) B Q := by
  obtain ⟨n, ha, hn, z0, z1, a9, w⟩ := w
  obtain ⟨h3, h4⟩ := idx_ok2 (n := n.toNat) z0 (by omega) (by omega)
  refine y_mem hd rfl rfl (fun _ => rfl) rfl ?_ w
  show (match (hC h1 B).1 a with | some (.inl (t, n, f)) => _ | _ => _) = _
  rw [hC_a ha]
  dsimp only
  rw [if_pos ⟨a9, h3⟩, if_pos rfl]
  have e := hC_putA (h1 := h1) (C := B) (x := (Int32.ofInt z).toNatClampNeg) (z := nB v) (v := iv (nB v)) ha a9 (by decide) rfl
  rw [h4] at e
  rw [← e]
  show some (st, qup _ _ (.inl (0, n.toNat, updV _ _ (narrow .byte (iv v))))) = _
  rw [nar_B]
/-- the largest, the smallest of two -/
theorem y_mm {idx own : Nat} {b : Bool} {x y : Int} (hd : decode (q_ms k).2.2.1 pc = .ok (.invokestatic idx, 3)) (hown : (q_ms k).2.1 = own) (hb : q_mm own idx = some b) (hs : Nat.ble (st.map fun v => v.category).sum 8 = true) (hx : R32 x) (hy : R32 y) (w : qY h1 d k (pc + 3) L (iv (if b = true then max x y else min x y) :: st) B Q) : qY h1 d k pc L (iv y :: iv x :: st) B Q := by
  refine y_mem hd rfl rfl (fun _ => rfl) rfl ?_ w
  show (match q_mm (q_ms k).2.1 idx with | some b => _ | none => _) = _
  rw [hown, hb]
  show (if (st.map fun v => v.category).sum ≤ 8 then some (Value.int (if b = true then (if Int32.ofInt x < Int32.ofInt y then Int32.ofInt y else Int32.ofInt x) else (if Int32.ofInt y < Int32.ofInt x then Int32.ofInt y else Int32.ofInt x)) :: st, hC h1 B) else none) = _
  rw [if_pos (Nat.le_of_ble_eq_true hs)]
  have lt1 : ∀ u v : Int, R32 u → R32 v → (Int32.ofInt u < Int32.ofInt v ↔ u < v) := fun u v hu hv => by rw [Int32.lt_iff_toInt_lt, i32_in hu, i32_in hv]
  congr 3
  cases b with
  | true =>
    rw [if_pos rfl, if_pos rfl]
    unfold iv
    by_cases h : x < y
    · rw [if_pos ((lt1 x y hx hy).mpr h), show max x y = y by omega]
    · rw [if_neg (fun w => h ((lt1 x y hx hy).mp w)), show max x y = x by omega]
  | false =>
    rw [if_neg (show ¬ false = true by decide), if_neg (show ¬ false = true by decide)]
    unfold iv
    by_cases h : y < x
    · rw [if_pos ((lt1 y x hy hx).mpr h), show min x y = y by omega]
    · rw [if_neg (fun w => h ((lt1 y x hy hx).mp w)), show min x y = x by omega]
theorem y_ldc {idx own : Nat} {c : Int} (hd : decode (q_ms k).2.2.1 pc = .ok (.ldc idx, 2)) (hown : (q_ms k).2.1 = own) (hc : q_con own idx = some (Int32.ofInt c)) (w : qY h1 d k (pc + 2) L (iv c :: st) B Q) : qY h1 d k pc L st B Q := by
  refine y_mem hd rfl rfl (fun _ => rfl) rfl ?_ w
  show (q_con (q_ms k).2.1 idx).map _ = _
  rw [hown, hc]
  rfl
/-- a call: it comes back, or it throws on -/
theorem y_callx {k' : Nat} {as r : List Value} {i : Instr} (hd : decode (q_ms k).2.2.1 pc = .ok (i, 3)) (hl : q_lok i 3 = true) (ho : q_op i st = none) (ho2 : ∀ env, q_loc (q_ms k).2.2.2.1 i 3 env st = none) (hj : q_jmp i pc st = none) (hmm : q_mem (q_ms k).2.1 ((q_ms k).1 == 2) i st (hC h1 B) = none) (hr : q_ret (q_ms k).2.2.2.2.1 i st = none) (hth : q_throw (q_ms k).2.1 (q_ms k).2.2.1 pc i st = none) (hinv : q_inv (q_ms k).2.1 i st (hC h1 B) = some (k', as, r))
    (hsl : (lg_sl as).length ≤ (q_ms k').2.2.2.1 ∧ (q_ms k').2.2.2.1 ≤ 80 ∧ (r.map fun v => v.category).sum ≤ 8) (hk2 : (q_ms k').1 < 2) {n : Nat} (hcat : ∀ v ∈ as, v.category = 1) (w : qY h1 d k' 0 (as.map some ++ List.replicate n none) [] B (fun o B' => (∃ v, o = .inl v ∧ qY h1 (d + 1) k (pc + 3) L (v.toList ++ r) B' Q) ∨ ∃ E, o = .inr E ∧ Q (.inr E) B')) : qY h1 (d + 1) k pc L st B Q := by
  obtain ⟨N1, o1, B1, w1, hq⟩ := w
  have c1 : ∀ M, N1 ≤ M → q_run M d (q_ms k') 0 (lv_args 0 as) [] (hC h1 B) = some (o1, hC h1 B1) := fun M hM => q_run_le _ _ _ _ _ _ _ _ (w1 (lv_args 0 as) (fun i v h => by have := EL_args as 0 n hcat i v h; rwa [Nat.zero_add] at this)) M d hM (Nat.le_refl _)
  rcases hq with ⟨v, rfl, N2, o2, B2, h2, hq⟩ | ⟨E, rfl, hq⟩
  · refine ⟨max N1 N2 + 1, o2, B2, fun env he => ?_, hq⟩
    have c2 := q_run_le _ _ _ _ _ _ _ _ (h2 env he) (max N1 N2) (d + 1) (Nat.le_max_right ..) (Nat.le_refl _)
    unfold q_run
    rw [hd]
    dsimp only
    rw [if_pos hl, ho]
    dsimp only
    rw [ho2]
    dsimp only
    rw [hj]
    dsimp only
    rw [hmm]
    dsimp only
    rw [hr]
    dsimp only
    rw [hth]
    dsimp only
    rw [hinv]
    dsimp only
    rw [if_pos hsl, c1 _ (Nat.le_max_left ..)]
    exact c2
  · refine ⟨N1 + 1, .inr E, B1, fun env he => ?_, hq⟩
    unfold q_run
    rw [hd]
    dsimp only
    rw [if_pos hl, ho]
    dsimp only
    rw [ho2]
    dsimp only
    rw [hj]
    dsimp only
    rw [hmm]
    dsimp only
    rw [hr]
    dsimp only
    rw [hth]
    dsimp only
    rw [hinv]
    dsimp only
    rw [if_pos hsl, c1 _ (Nat.le_refl _)]
    dsimp only
    rw [if_pos hk2]
theorem y_virt {idx own k' K np n b : Nat} {as r : List Value} (hd : decode (q_ms k).2.2.1 pc = .ok (.invokevirtual idx, 3)) (hown : (q_ms k).2.1 = own) (hmt : q_mth own idx = some k') (hk : (q_ms k').1 = 0 ∧ (q_ms k').2.1 = K ∧ (q_ms k').2.2.2.2.2.1 = np) (hlen : as.length = np) {nL : Nat} (hN : (q_ms k').2.2.2.1 = nL) (hs1 : Nat.ble (lg_sl (.ref b :: as)).length nL = true) (hs2 : Nat.ble nL 80 = true) (hs3 : Nat.ble (r.map fun v => v.category).sum 8 = true) (hcat : as.all (fun v => v.category == 1) = true)
    (w : isO B K b ∧ qY h1 d k' 0 ((.ref b :: as).map some ++ List.replicate n none) [] B (fun o B' => (∃ v, o = .inl v ∧ qY h1 (d + 1) k (pc + 3) L (v.toList ++ r) B' Q) ∨ ∃ E, o = .inr E ∧ Q (.inr E) B')) : qY h1 (d + 1) k pc L (as.reverse ++ .ref b :: r) B Q := by
  obtain ⟨hob, w⟩ := w
  obtain ⟨e1, e2, e3⟩ := hk
  refine y_callx hd rfl rfl (fun _ => rfl) rfl rfl rfl rfl ?_ ⟨by rw [hN]; exact Nat.le_of_ble_eq_true hs1, by rw [hN]; exact Nat.le_of_ble_eq_true hs2, Nat.le_of_ble_eq_true hs3⟩ (by rw [e1]; decide) (n := n) (fun v hv => ?_) w
  · show (match q_mth (q_ms k).2.1 idx with | some k => _ | none => _) = _
    rw [hown, hmt]
    dsimp only
    have hl2 : as.reverse.length = np := by rw [List.length_reverse]; exact hlen
    rw [e1, e3, if_pos ⟨rfl, by simp; omega⟩, List.drop_left' hl2]
    dsimp only
    rw [hC_o hob]
    dsimp only
    rw [e2, if_pos ⟨rfl, hob.2⟩, List.take_left' hl2, List.reverse_reverse]
  · rcases List.mem_cons.mp hv with rfl | h
    · rfl
    · simpa using List.all_eq_true.mp hcat v h
theorem y_stat {idx own k' np n : Nat} {as r : List Value} (hd : decode (q_ms k).2.2.1 pc = .ok (.invokestatic idx, 3)) (hown : (q_ms k).2.1 = own) (hmt : q_mth own idx = some k') (hmm : q_mm own idx = none ∧ q_cpy own idx = false) (hk : (q_ms k').1 = 1 ∧ (q_ms k').2.2.2.2.2.1 = np) (hlen : as.length = np) {nL : Nat} (hN : (q_ms k').2.2.2.1 = nL) (hs1 : Nat.ble (lg_sl as).length nL = true) (hs2 : Nat.ble nL 80 = true) (hs3 : Nat.ble (r.map fun v => v.category).sum 8 = true) (hcat : as.all (fun v => v.category == 1) = true)
    (w : qY h1 d k' 0 (as.map some ++ List.replicate n none) [] B (fun o B' => (∃ v, o = .inl v ∧ qY h1 (d + 1) k (pc + 3) L (v.toList ++ r) B' Q) ∨ ∃ E, o = .inr E ∧ Q (.inr E) B')) : qY h1 (d + 1) k pc L (as.reverse ++ r) B Q := by
  obtain ⟨e1, e3⟩ := hk
  refine y_callx hd rfl rfl (fun _ => rfl) rfl ?_ rfl rfl ?_ ⟨by rw [hN]; exact Nat.le_of_ble_eq_true hs1, by rw [hN]; exact Nat.le_of_ble_eq_true hs2, Nat.le_of_ble_eq_true hs3⟩ (by rw [e1]; decide) (n := n) (fun v hv => by simpa using List.all_eq_true.mp hcat v hv) w
  · show (match q_mm (q_ms k).2.1 idx with | some b => _ | none => if q_cpy (q_ms k).2.1 idx = true then _ else none) = none
    rw [hown, hmm.1, hmm.2]
    rfl
  · show (match q_mth (q_ms k).2.1 idx with | some k => _ | none => _) = _
    rw [hown, hmt]
    dsimp only
    have hl2 : as.reverse.length = np := by rw [List.length_reverse]; exact hlen
    rw [e1, e3, if_pos ⟨Or.inl rfl, by simp; omega⟩, List.take_left' hl2, List.drop_left' hl2, List.reverse_reverse]
/-- the counters behind a throw -/
def thC (B : qB) : qB := u2 (u2 B 2000000000 0 (B 2000000000 0 + 1)) 2000000000 1 (B 2000000000 1 + 6)
theorem y_throw {ik : Nat} {E : String} (hd : decode (q_ms k).2.2.1 pc = .ok (.new ik, 3)) (hn : q_mem (q_ms k).2.1 ((q_ms k).1 == 2) (.new ik) st (hC h1 B) = none) (ht : q_throw (q_ms k).2.1 (q_ms k).2.2.1 pc (.new ik) st = some E) (w : (B 2000000000 (-1) = 0 ∧ 0 ≤ B 2000000000 0 ∧ 0 ≤ B 2000000000 1) ∧ Q (.inr E) (thC B)) : qY h1 d k pc L st B Q := by
  obtain ⟨⟨wm, w0, w1⟩, w⟩ := w
  refine ⟨1, .inr E, thC B, fun env _ => ?_, w⟩
  unfold q_run
  rw [hd]
  dsimp only
  rw [if_pos (show q_lok (.new ik) 3 = true from rfl), show q_op (.new ik) st = none from rfl]
  dsimp only
  rw [show q_loc (q_ms k).2.2.2.1 (.new ik) 3 env st = none from rfl]
  dsimp only
  rw [show q_jmp (.new ik) pc st = none from rfl]
  dsimp only
  rw [hn]
  dsimp only
  rw [show q_ret (q_ms k).2.2.2.2.1 (.new ik) st = none from rfl]
  dsimp only
  rw [ht]
  dsimp only
  congr 2
  have hs : ∀ (i : Nat) (x : Int), i ≠ 2000000000 → thC B i x = B i x := fun i x hi => by unfold thC; rw [u2_bank hi, u2_bank hi]
  have e0 : thC B 2000000000 0 = B 2000000000 0 + 1 := by unfold thC; rw [u2_idx (by decide), u2_same]
  have e1 : thC B 2000000000 1 = B 2000000000 1 + 6 := by unfold thC; rw [u2_same]
  have em : thC B 2000000000 (-1) = B 2000000000 (-1) := by unfold thC; rw [u2_idx (by decide), u2_idx (by decide)]
  refine Prod.ext (funext fun i => ?_) ?_
  · by_cases hi : i = 2000000000
    · subst hi
      show (if B 2000000000 (-1) = 0 then _ else _) = (if thC B 2000000000 (-1) = 0 then _ else _)
      rw [em, if_pos wm, if_pos wm]
    · have hof : ∀ k', ofv k' i (thC B) = ofv k' i B := by
        intro k'
        funext x
        unfold ofv
        rw [hs i _ hi]
      show (if B i (-1) = 0 then _ else if B i (-1) < 100 then _ else _) = (if thC B i (-1) = 0 then _ else if thC B i (-1) < 100 then _ else _)
      rw [hs i _ hi, hof]
      congr 2
      congr 4
      funext x
      rw [hs i _ hi]
  · show ((B 2000000000 0).toNat + 1, (B 2000000000 1).toNat + 6) = ((thC B 2000000000 0).toNat, (thC B 2000000000 1).toNat)
    rw [e0, e1, show (B 2000000000 0 + 1).toNat = (B 2000000000 0).toNat + 1 by omega, show (B 2000000000 1 + 6).toNat = (B 2000000000 1).toNat + 6 by omega]
/-- a new row of numbers -/
def nwC (B : qB) (n : Int) : qB := fun b x => if b = (B 2000000000 0).toNat then (if x = -1 then 101 + 10 * n else 0) else if b = 2000000000 then (if x = 0 then B 2000000000 0 + 1 else if x = 1 then B 2000000000 1 + n else B b x) else B b x
theorem y_newa {z : Int} (hd : decode (q_ms k).2.2.1 pc = .ok (.newarray .int, 2)) (w : (B 2000000000 (-1) = 0 ∧ 0 ≤ B 2000000000 0 ∧ B 2000000000 0 < 1000000000 ∧ 0 ≤ B 2000000000 1) ∧ 0 ≤ z ∧ z ≤ 67108864 ∧ qY h1 d k (pc + 2) L (.ref (B 2000000000 0).toNat :: st) (nwC B z) Q) : qY h1 d k pc L (iv z :: st) B Q := by
  obtain ⟨⟨wm, w0, w9, w1⟩, z0, z1, w⟩ := w
  have hR : R32 z := ⟨by omega, by omega⟩
  refine y_mem hd rfl rfl (fun _ => rfl) rfl ?_ w
  show (if (hC h1 B).2.1 < 1000000000 ∧ ¬ Int32.ofInt z < 0 ∧ (Int32.ofInt z).toNatClampNeg ≤ 67108864 then some (Value.ref (hC h1 B).2.1 :: st, qnew (hC h1 B) (.inl (1, (Int32.ofInt z).toNatClampNeg, fun _ => defaultValue (newarray.typeOf .int))) (Int32.ofInt z).toNatClampNeg) else none) = _
  have hlt : ¬ Int32.ofInt z < 0 := by
    rw [Int32.lt_iff_toInt_lt, i32_in hR]
    show ¬ z < 0
    omega
  have hnx : (hC h1 B).2.1 = (B 2000000000 0).toNat := rfl
  rw [i32_nat hR, if_pos ⟨by rw [hnx]; omega, hlt, by omega⟩, hnx]
  congr 2
  have ne : (B 2000000000 0).toNat ≠ 2000000000 := by omega
  refine Prod.ext (funext fun i => ?_) ?_
  · show (if i = (B 2000000000 0).toNat then _ else (hC h1 B).1 i) = _
    by_cases hi : i = (B 2000000000 0).toNat
    · rw [if_pos hi]
      have hA : isA (nwC B z) 1 i z := ⟨by unfold nwC; rw [if_pos hi, if_pos rfl]; omega, by decide, z0⟩
      rw [hC_a hA]
      congr 4
      funext x
      show defaultValue (newarray.typeOf .int) = cav 1 x (nwC B z i x)
      have : nwC B z i x = 0 := by unfold nwC; rw [if_pos hi, if_neg (by omega)]
      rw [this]
      rfl
    · rw [if_neg hi]
      by_cases hi2 : i = 2000000000
      · subst hi2
        have em : nwC B z 2000000000 (-1) = B 2000000000 (-1) := by unfold nwC; rw [if_neg hi, if_pos rfl, if_neg (by decide), if_neg (by decide)]
        show (if B 2000000000 (-1) = 0 then _ else _) = (if nwC B z 2000000000 (-1) = 0 then _ else _)
        rw [em, if_pos wm, if_pos wm]
      · have hs : ∀ x : Int, nwC B z i x = B i x := fun x => by unfold nwC; rw [if_neg hi, if_neg hi2]
        have hof : ∀ k', ofv k' i (nwC B z) = ofv k' i B := by
          intro k'
          funext x
          unfold ofv
          rw [hs]
        show (if B i (-1) = 0 then _ else if B i (-1) < 100 then _ else _) = (if nwC B z i (-1) = 0 then _ else if nwC B z i (-1) < 100 then _ else _)
        rw [hs, hof]
        congr 2
        congr 4
        funext x
        rw [hs]
  · have e0 : nwC B z 2000000000 0 = B 2000000000 0 + 1 := by unfold nwC; rw [if_neg (fun q => ne q.symm), if_pos rfl, if_pos rfl]
    have e1 : nwC B z 2000000000 1 = B 2000000000 1 + z := by unfold nwC; rw [if_neg (fun q => ne q.symm), if_pos rfl, if_neg (by decide), if_pos rfl]
    show ((B 2000000000 0).toNat + 1, (B 2000000000 1).toNat + z.toNat) = ((nwC B z 2000000000 0).toNat, (nwC B z 2000000000 1).toNat)
    rw [e0, e1, show (B 2000000000 0 + 1).toNat = (B 2000000000 0).toNat + 1 by omega, show (B 2000000000 1 + z).toNat = (B 2000000000 1).toNat + z.toNat by omega]
end CR
