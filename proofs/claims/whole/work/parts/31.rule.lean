/-! the rules of the reference's runs, an instruction each -/
theorem i32_in {z : Int} (h : R32 z) : (Int32.ofInt z).toInt = z := Int32.toInt_ofInt_of_le (by have := h.1; omega) (by have := h.2; omega)
theorem i32_nat {z : Int} (h : R32 z) : (Int32.ofInt z).toNatClampNeg = z.toNat := by
  show (Int32.ofInt z).toInt.toNat = _
  rw [i32_in h]
theorem i64_in {z : Int} (h1 : -9223372036854775808 ≤ z) (h2 : z < 9223372036854775808) : (Int64.ofInt z).toInt = z := Int64.toInt_ofInt_of_le (by omega) (by omega)
theorem R32_i (x : Int32) : R32 x.toInt := ⟨by have := Int32.le_toInt x; omega, by have := Int32.toInt_lt x; omega⟩
def cP : ClassFile.Cond → Int → Int → Prop
  | .eq, x, y => x = y
  | .ne, x, y => ¬ x = y
  | .lt, x, y => x < y
  | .ge, x, y => y ≤ x
  | .gt, x, y => y < x
  | .le, x, y => x ≤ y
def cN : ClassFile.Cond → Int → Int → Prop
  | .eq, x, y => ¬ x = y
  | .ne, x, y => x = y
  | .lt, x, y => y ≤ x
  | .ge, x, y => x < y
  | .gt, x, y => x ≤ y
  | .le, x, y => y < x
theorem cmp_P {c : ClassFile.Cond} {x y : Int} (hx : R32 x) (hy : R32 y) (h : q_cmp c (Int32.ofInt x) (Int32.ofInt y) = true) : cP c x y := by
  cases c <;> simp only [q_cmp, decide_eq_true_eq, ← Int32.toInt_inj, Int32.lt_iff_toInt_lt, Int32.le_iff_toInt_le, i32_in hx, i32_in hy] at h <;> exact h
theorem cmp_N {c : ClassFile.Cond} {x y : Int} (hx : R32 x) (hy : R32 y) (h : ¬ q_cmp c (Int32.ofInt x) (Int32.ofInt y) = true) : cN c x y := by
  cases c <;> simp only [q_cmp, decide_eq_true_eq, ← Int32.toInt_inj, Int32.lt_iff_toInt_lt, Int32.le_iff_toInt_le, i32_in hx, i32_in hy] at h <;> simp only [cN] <;> omega
def iAnd (x y : Int) : Int := (Int32.ofInt x &&& Int32.ofInt y).toInt
def iOr (x y : Int) : Int := (Int32.ofInt x ||| Int32.ofInt y).toInt
def iXor (x y : Int) : Int := (Int32.ofInt x ^^^ Int32.ofInt y).toInt
def iShl (x y : Int) : Int := (Int32.ofInt x <<< (Int32.ofInt y &&& 31)).toInt
def iShr (x y : Int) : Int := (Int32.ofInt x >>> (Int32.ofInt y &&& 31)).toInt
def iUshr (x y : Int) : Int := ((Int32.ofInt x).toUInt32 >>> ((Int32.ofInt y).toUInt32 &&& Int32.toUInt32 31)).toInt32.toInt
def iDiv (x y : Int) : Int := (Int32.ofInt x / Int32.ofInt y).toInt
def iRem (x y : Int) : Int := (Int32.ofInt x - Int32.ofInt x / Int32.ofInt y * Int32.ofInt y).toInt
def lAnd (x y : Int) : Int := (Int64.ofInt x &&& Int64.ofInt y).toInt
def lOr (x y : Int) : Int := (Int64.ofInt x ||| Int64.ofInt y).toInt
def lXor (x y : Int) : Int := (Int64.ofInt x ^^^ Int64.ofInt y).toInt
def lShl (x y : Int) : Int := (Int64.ofInt x <<< ((Int32.ofInt y).toInt64 &&& 63)).toInt
def lShr (x y : Int) : Int := (Int64.ofInt x >>> ((Int32.ofInt y).toInt64 &&& 63)).toInt
def lCmp (x y : Int) : Int := (lg_cmp (Int64.ofInt x) (Int64.ofInt y)).toInt
theorem iv_toInt (x : Int32) : iv x.toInt = .int x := by unfold iv; rw [Int32.ofInt_toInt]
theorem wv_toInt (x : Int64) : wv x.toInt = .long x := by unfold wv; rw [Int64.ofInt_toInt]
section ZOP
variable {x y : Int} {r : List Value}
theorem o_const (c : Int) : q_op (.iconst c) r = some (iv c :: r) := rfl
theorem o_bipush (c : Int) (h : (Int8.ofInt c).toInt32 = Int32.ofInt c) : q_op (.bipush c) r = some (iv c :: r) := by
  show some (.int (Int8.ofInt c).toInt32 :: r) = _
  rw [h]; rfl
theorem o_sipush (c : Int) (h : (Int16.ofInt c).toInt32 = Int32.ofInt c) : q_op (.sipush c) r = some (iv c :: r) := by
  show some (.int (Int16.ofInt c).toInt32 :: r) = _
  rw [h]; rfl
theorem o_lconst0 : q_op (.lconst 0) r = some (wv 0 :: r) := rfl
theorem o_lconst1 : q_op (.lconst 1) r = some (wv 1 :: r) := rfl
theorem o_iadd : q_op .iadd (iv y :: iv x :: r) = some (iv (x + y) :: r) := by
  show some (.int (Int32.ofInt x + Int32.ofInt y) :: r) = _
  rw [← Int32.ofInt_add]; rfl
theorem o_isub : q_op .isub (iv y :: iv x :: r) = some (iv (x - y) :: r) := by
  show some (.int (Int32.ofInt x - Int32.ofInt y) :: r) = _
  rw [← Int32.ofInt_sub]; rfl
theorem o_imul : q_op .imul (iv y :: iv x :: r) = some (iv (x * y) :: r) := by
  show some (.int (Int32.ofInt x * Int32.ofInt y) :: r) = _
  rw [← Int32.ofInt_mul]; rfl
theorem o_iand : q_op .iand (iv y :: iv x :: r) = some (iv (iAnd x y) :: r) := by unfold iAnd; rw [iv_toInt]; rfl
theorem o_ior : q_op .ior (iv y :: iv x :: r) = some (iv (iOr x y) :: r) := by unfold iOr; rw [iv_toInt]; rfl
theorem o_ixor : q_op .ixor (iv y :: iv x :: r) = some (iv (iXor x y) :: r) := by unfold iXor; rw [iv_toInt]; rfl
theorem o_ishl : q_op .ishl (iv y :: iv x :: r) = some (iv (iShl x y) :: r) := by unfold iShl; rw [iv_toInt]; rfl
theorem o_ishr : q_op .ishr (iv y :: iv x :: r) = some (iv (iShr x y) :: r) := by unfold iShr; rw [iv_toInt]; rfl
theorem o_iushr : q_op .iushr (iv y :: iv x :: r) = some (iv (iUshr x y) :: r) := by unfold iUshr; rw [iv_toInt]; rfl
theorem i32_ne0 (hy : R32 y) (h : ¬ y = 0) : ¬ Int32.ofInt y = 0 := by
  intro e
  have := congrArg Int32.toInt e
  rw [i32_in hy] at this
  exact h this
theorem o_idiv (hy : R32 y) (h : ¬ y = 0) : q_op .idiv (iv y :: iv x :: r) = some (iv (iDiv x y) :: r) := by
  show (if Int32.ofInt y = 0 then none else some _) = _
  rw [if_neg (i32_ne0 hy h)]
  unfold iDiv
  rw [iv_toInt]
theorem o_irem (hy : R32 y) (h : ¬ y = 0) : q_op .irem (iv y :: iv x :: r) = some (iv (iRem x y) :: r) := by
  show (if Int32.ofInt y = 0 then none else some _) = _
  rw [if_neg (i32_ne0 hy h)]
  unfold iRem
  rw [iv_toInt]
theorem o_land : q_op .land (wv y :: wv x :: r) = some (wv (lAnd x y) :: r) := by unfold lAnd; rw [wv_toInt]; rfl
theorem o_lor : q_op .lor (wv y :: wv x :: r) = some (wv (lOr x y) :: r) := by unfold lOr; rw [wv_toInt]; rfl
theorem o_lxor : q_op .lxor (wv y :: wv x :: r) = some (wv (lXor x y) :: r) := by unfold lXor; rw [wv_toInt]; rfl
theorem o_lshl : q_op .lshl (iv y :: wv x :: r) = some (wv (lShl x y) :: r) := by unfold lShl; rw [wv_toInt]; rfl
theorem o_lshr : q_op .lshr (iv y :: wv x :: r) = some (wv (lShr x y) :: r) := by unfold lShr; rw [wv_toInt]; rfl
theorem o_lcmp : q_op .lcmp (wv y :: wv x :: r) = some (iv (lCmp x y) :: r) := by unfold lCmp; rw [iv_toInt]; rfl
theorem o_i2l (hx : R32 x) : q_op .i2l (iv x :: r) = some (wv x :: r) := by
  show some (.long (Int32.ofInt x).toInt64 :: r) = _
  rw [← Int64.ofInt_int32ToInt, i32_in hx]; rfl
theorem o_dupI : q_op .dup (iv x :: r) = some (iv x :: iv x :: r) := rfl
theorem o_dupR {a : Nat} : q_op .dup (.ref a :: r) = some (.ref a :: .ref a :: r) := rfl
theorem o_popI : q_op .pop (iv x :: r) = some r := rfl
theorem o_dup2 {a : Nat} : q_op .dup2 (iv x :: .ref a :: r) = some (iv x :: .ref a :: iv x :: .ref a :: r) := rfl
end ZOP
theorem mLn_le : ∀ (i n : Nat), mLn[i]? = some n → n ≤ 2500000 := by
  intro i n h
  exact of_decide_eq_true (List.all_eq_true.mp (show mLn.all (fun n => decide (n ≤ 2500000)) = true by decide) n (List.mem_of_getElem? h))
theorem idx_ok {z : Int} {n : Nat} (h1 : 0 ≤ z) (h2 : z < n) (hn : n ≤ 2500000) : q_idx (Int32.ofInt z) n = true ∧ (((Int32.ofInt z).toNatClampNeg : Nat) : Int) = z := by
  have hR : R32 z := ⟨by omega, by omega⟩
  unfold q_idx
  rw [i32_nat hR]
  have : ¬ Int32.ofInt z < 0 := by
    rw [Int32.lt_iff_toInt_lt, i32_in hR]
    show ¬ z < 0
    omega
  simp [this]
  omega
section ZWK
variable {m : Nat} {h0 : qH} {d k pc : Nat} {L : List (Option Value)} {st : List Value} {B : qB} {Q : qO → qB → Prop}
theorem z_wk {L' : List (Option Value)} (w : qZ m h0 d k pc L' st B Q) (hl : lw L' L) : qZ m h0 d k pc L st B Q := z_weak hl w
end ZWK
section ZR
variable {m : Nat} {h0 : qH} {d k pc : Nat} {L : List (Option Value)} {st : List Value} {B : qB} {Q : qO → qB → Prop}
theorem z_goto {off : Int} {t : Nat} (hd : decode (q_ms k).2.2.1 pc = .ok (.goto off, 3)) (ht : q_tgt pc off = some t) (w : qZ m h0 d k t L st B Q) : qZ m h0 d k pc L st B Q :=
  z_jmp hd rfl rfl (fun _ => rfl) (by show (match q_tgt pc off with | some t => some (t, st) | none => none) = _; rw [ht]) w
theorem z_icmp {c : ClassFile.Cond} {off : Int} {t : Nat} {x y : Int} (hd : decode (q_ms k).2.2.1 pc = .ok (.if_icmp c off, 3)) (ht : q_tgt pc off = some t) (hx : R32 x) (hy : R32 y) (w1 : cP c x y → qZ m h0 d k t L st B Q) (w2 : cN c x y → qZ m h0 d k (pc + 3) L st B Q) : qZ m h0 d k pc L (iv y :: iv x :: st) B Q := by
  have hj : q_jmp (.if_icmp c off) pc (iv y :: iv x :: st) = some (if q_cmp c (Int32.ofInt x) (Int32.ofInt y) = true then t else pc + 3, st) := by
    show q_br (q_cmp c (Int32.ofInt x) (Int32.ofInt y)) pc off st = _
    unfold q_br
    rw [ht]
  by_cases h : q_cmp c (Int32.ofInt x) (Int32.ofInt y) = true
  · rw [if_pos h] at hj
    exact z_jmp hd rfl rfl (fun _ => rfl) hj (w1 (cmp_P hx hy h))
  · rw [if_neg h] at hj
    exact z_jmp hd rfl rfl (fun _ => rfl) hj (w2 (cmp_N hx hy h))
theorem z_ifz {c : ClassFile.Cond} {off : Int} {t : Nat} {x : Int} (hd : decode (q_ms k).2.2.1 pc = .ok (.ifCond c off, 3)) (ht : q_tgt pc off = some t) (hx : R32 x) (w1 : cP c x 0 → qZ m h0 d k t L st B Q) (w2 : cN c x 0 → qZ m h0 d k (pc + 3) L st B Q) : qZ m h0 d k pc L (iv x :: st) B Q := by
  have hy : R32 0 := ⟨by omega, by omega⟩
  have hj : q_jmp (.ifCond c off) pc (iv x :: st) = some (if q_cmp c (Int32.ofInt x) (Int32.ofInt 0) = true then t else pc + 3, st) := by
    show q_br (q_cmp c (Int32.ofInt x) 0) pc off st = _
    unfold q_br
    rw [ht]
    rfl
  by_cases h : q_cmp c (Int32.ofInt x) (Int32.ofInt 0) = true
  · rw [if_pos h] at hj
    exact z_jmp hd rfl rfl (fun _ => rfl) hj (w1 (cmp_P hx hy h))
  · rw [if_neg h] at hj
    exact z_jmp hd rfl rfl (fun _ => rfl) hj (w2 (cmp_N hx hy h))
theorem fv_at (j : Nat) (hj : j < 76) : ((List.range 76).map (mfv m B))[j]? = some (mfv m B j) := by
  rw [List.getElem?_map, List.getElem?_range hj]; rfl
theorem z_getf {idx j : Nat} {v : Value} (hd : decode (q_ms k).2.2.1 pc = .ok (.getfield idx, 3)) (hown : (q_ms k).2.1 = 11) (hf : q_fld 11 idx = some (11, j)) (hj : j < 76) (hv : mfv m B j = v) (w : qZ m h0 d k (pc + 3) L (v :: st) B Q) : qZ m h0 d k pc L (.ref m :: st) B Q := by
  refine z_mem hd rfl rfl (fun _ => rfl) rfl ?_ w
  show q_getf (q_ms k).2.1 idx (.ref m :: st) (hM m h0 B) = _
  unfold q_getf
  rw [hown, hf]
  dsimp only
  rw [hM_o]
  dsimp only
  rw [if_pos rfl, fv_at j hj, hv]
theorem mfv_I {j : Nat} (hc : mAr.contains j = false) : mfv m B j = iv (B j 0) := by
  unfold mfv
  rw [hc, if_neg (by decide)]
theorem mfv_R {j a : Nat} (hc : mAr.contains j = true) (ha : mAr.idxOf j = a) : mfv m B j = .ref (m + 1 + a) := by
  unfold mfv
  rw [if_pos hc, ha]
theorem z_getI {idx j : Nat} (hd : decode (q_ms k).2.2.1 pc = .ok (.getfield idx, 3)) (hown : (q_ms k).2.1 = 11) (hf : q_fld 11 idx = some (11, j)) (hj : j < 76) (hc : mAr.contains j = false) (w : qZ m h0 d k (pc + 3) L (iv (B j 0) :: st) B Q) : qZ m h0 d k pc L (.ref m :: st) B Q :=
  z_getf hd hown hf hj (mfv_I hc) w
theorem z_getR {idx j a : Nat} (hd : decode (q_ms k).2.2.1 pc = .ok (.getfield idx, 3)) (hown : (q_ms k).2.1 = 11) (hf : q_fld 11 idx = some (11, j)) (hj : j < 76) (hc : mAr.contains j = true) (ha : mAr.idxOf j = a) (w : qZ m h0 d k (pc + 3) L (.ref (m + 1 + a) :: st) B Q) : qZ m h0 d k pc L (.ref m :: st) B Q :=
  z_getf hd hown hf hj (mfv_R hc ha) w
theorem z_put {idx j : Nat} {z : Int} (hm : m + 100 < 1000000000) (hd : decode (q_ms k).2.2.1 pc = .ok (.putfield idx, 3)) (hown : (q_ms k).2.1 = 11) (hf : q_fld 11 idx = some (11, j)) (hj : j < 76) (hc : mAr.contains j = false) (hfit : q_fit (qTy 11 j) (iv z) = true) (hnf : (qF 11 j).2.2.2 = false) (w : qZ m h0 d k (pc + 3) L st (u2 B j 0 z) Q) : qZ m h0 d k pc L (iv z :: .ref m :: st) B Q := by
  refine z_mem hd rfl rfl (fun _ => rfl) rfl ?_ w
  show q_putf (q_ms k).2.1 _ idx (iv z :: .ref m :: st) (hM m h0 B) = _
  unfold q_putf
  rw [hown, hf]
  dsimp only
  rw [hM_o]
  dsimp only
  have ha : m < 1000000000 := by omega
  have hl : j < (List.map (mfv m B) (List.range 76)).length := by simpa using hj
  rw [if_pos ⟨rfl, ha, hl, hfit, Or.inl hnf⟩, hM_putI hj hc]
theorem fit_I {z : Int} : q_fit .int (iv z) = true := by
  unfold q_fit
  rw [show narrow .int (iv z) = iv z from rfl]
  simp
  rfl
theorem nar_Z {z : Int} (h : z = 0 ∨ z = 1) : narrow .boolean (iv z) = iv z := by
  rcases h with rfl | rfl <;> rfl
theorem fit_Z {z : Int} (h : z = 0 ∨ z = 1) : q_fit .boolean (iv z) = true := by
  rcases h with rfl | rfl <;> rfl
theorem z_putI {idx j : Nat} {z : Int} (hm : m + 100 < 1000000000) (hd : decode (q_ms k).2.2.1 pc = .ok (.putfield idx, 3)) (hown : (q_ms k).2.1 = 11) (hf : q_fld 11 idx = some (11, j)) (hj : j < 76) (hc : mAr.contains j = false) (hty : qTy 11 j = .int) (hnf : (qF 11 j).2.2.2 = false) (w : qZ m h0 d k (pc + 3) L st (u2 B j 0 z) Q) : qZ m h0 d k pc L (iv z :: .ref m :: st) B Q :=
  z_put hm hd hown hf hj hc (by rw [hty]; exact fit_I) hnf w
theorem z_putZ {idx j : Nat} {z : Int} (hm : m + 100 < 1000000000) (hd : decode (q_ms k).2.2.1 pc = .ok (.putfield idx, 3)) (hown : (q_ms k).2.1 = 11) (hf : q_fld 11 idx = some (11, j)) (hj : j < 76) (hc : mAr.contains j = false) (hty : qTy 11 j = .boolean) (hnf : (qF 11 j).2.2.2 = false) (hz : z = 0 ∨ z = 1) (w : qZ m h0 d k (pc + 3) L st (u2 B j 0 z) Q) : qZ m h0 d k pc L (iv z :: .ref m :: st) B Q :=
  z_put hm hd hown hf hj hc (by rw [hty]; exact fit_Z hz) hnf w
theorem ald_ok {ok : Nat → Bool} {a j n : Nat} {z : Int} (ha : mAr[a]? = some j) (hn : mLn[a]? = some n) (hk : ok (mt j) = true) (h1 : 0 ≤ z) (h2 : z < n) : q_ald ok (iv z :: .ref (m + 1 + a) :: st) (hM m h0 B) = some (mcv (mt j) (B j z) :: st, hM m h0 B) := by
  obtain ⟨h3, h4⟩ := idx_ok h1 h2 (mLn_le _ _ hn)
  show (match (hM m h0 B).1 (m + 1 + a) with | some (.inl (t, n, f)) => _ | _ => _) = _
  rw [hM_a ha hn]
  dsimp only
  rw [if_pos ⟨hk, h3⟩, h4]
theorem z_iald {a j n : Nat} {z : Int} (hd : decode (q_ms k).2.2.1 pc = .ok (.iaload, 1)) (ha : mAr[a]? = some j) (hn : mLn[a]? = some n) (ht : mt j = 1) (h1 : 0 ≤ z) (h2 : z < n) (w : qZ m h0 d k (pc + 1) L (iv (B j z) :: st) B Q) : qZ m h0 d k pc L (iv z :: .ref (m + 1 + a) :: st) B Q := by
  refine z_mem hd rfl rfl (fun _ => rfl) rfl (ald_ok (ok := fun t => t == 1) ha hn (by rw [ht]; rfl) h1 h2) ?_
  rw [ht]
  exact w
theorem z_bald {a j n : Nat} {z : Int} (hd : decode (q_ms k).2.2.1 pc = .ok (.baload, 1)) (ha : mAr[a]? = some j) (hn : mLn[a]? = some n) (ht : mt j = 3) (h1 : 0 ≤ z) (h2 : z < n) (w : qZ m h0 d k (pc + 1) L (iv (B j z) :: st) B Q) : qZ m h0 d k pc L (iv z :: .ref (m + 1 + a) :: st) B Q := by
  refine z_mem hd rfl rfl (fun _ => rfl) rfl (ald_ok (ok := fun t => t == 0 || t == 3) ha hn (by rw [ht]; rfl) h1 h2) ?_
  rw [ht]
  exact w
theorem z_lald {a j n : Nat} {z : Int} (hd : decode (q_ms k).2.2.1 pc = .ok (.laload, 1)) (ha : mAr[a]? = some j) (hn : mLn[a]? = some n) (ht : mt j = 2) (h1 : 0 ≤ z) (h2 : z < n) (w : qZ m h0 d k (pc + 1) L (wv (B j z) :: st) B Q) : qZ m h0 d k pc L (iv z :: .ref (m + 1 + a) :: st) B Q := by
  refine z_mem hd rfl rfl (fun _ => rfl) rfl (ald_ok (ok := fun t => t == 2) ha hn (by rw [ht]; rfl) h1 h2) ?_
  rw [ht]
  exact w
theorem mAr_le : ∀ (a j : Nat), mAr[a]? = some j → a < 46 := fun a j h => (List.getElem?_eq_some_iff.mp h).1
theorem z_iast {a j n : Nat} {z v : Int} (hm : m + 100 < 1000000000) (hd : decode (q_ms k).2.2.1 pc = .ok (.iastore, 1)) (ha : mAr[a]? = some j) (hn : mLn[a]? = some n) (ht : mt j = 1) (h1 : 0 ≤ z) (h2 : z < n) (w : qZ m h0 d k (pc + 1) L st (u2 B j z v) Q) : qZ m h0 d k pc L (iv v :: iv z :: .ref (m + 1 + a) :: st) B Q := by
  obtain ⟨h3, h4⟩ := idx_ok h1 h2 (mLn_le _ _ hn)
  have := mAr_le _ _ ha
  refine z_mem hd rfl rfl (fun _ => rfl) rfl ?_ w
  show (match (hM m h0 B).1 (m + 1 + a) with | some (.inl (t, n, f)) => _ | _ => _) = _
  rw [hM_a ha hn]
  dsimp only
  have ha9 : m + 1 + a < 1000000000 := by omega
  rw [if_pos ⟨ht, ha9, h3⟩]
  have e := hM_putA (m := m) (h0 := h0) (B := B) (x := (Int32.ofInt z).toNatClampNeg) (z := v) ha hn
  rw [h4, ht] at e
  rw [← e, ht]
  rfl
theorem z_last {a j n : Nat} {z v : Int} (hm : m + 100 < 1000000000) (hd : decode (q_ms k).2.2.1 pc = .ok (.lastore, 1)) (ha : mAr[a]? = some j) (hn : mLn[a]? = some n) (ht : mt j = 2) (h1 : 0 ≤ z) (h2 : z < n) (w : qZ m h0 d k (pc + 1) L st (u2 B j z v) Q) : qZ m h0 d k pc L (wv v :: iv z :: .ref (m + 1 + a) :: st) B Q := by
  obtain ⟨h3, h4⟩ := idx_ok h1 h2 (mLn_le _ _ hn)
  have := mAr_le _ _ ha
  refine z_mem hd rfl rfl (fun _ => rfl) rfl ?_ w
  show (match (hM m h0 B).1 (m + 1 + a) with | some (.inl (t, n, f)) => _ | _ => _) = _
  rw [hM_a ha hn]
  dsimp only
  have ha9 : m + 1 + a < 1000000000 := by omega
  rw [if_pos ⟨ht, ha9, h3⟩]
  have e := hM_putA (m := m) (h0 := h0) (B := B) (x := (Int32.ofInt z).toNatClampNeg) (z := v) ha hn
  rw [h4, ht] at e
  rw [← e, ht]
  rfl
theorem z_bast {a j n : Nat} {z v : Int} (hm : m + 100 < 1000000000) (hd : decode (q_ms k).2.2.1 pc = .ok (.bastore, 1)) (ha : mAr[a]? = some j) (hn : mLn[a]? = some n) (ht : mt j = 3) (h1 : 0 ≤ z) (h2 : z < n) (hv : v = 0 ∨ v = 1) (w : qZ m h0 d k (pc + 1) L st (u2 B j z v) Q) : qZ m h0 d k pc L (iv v :: iv z :: .ref (m + 1 + a) :: st) B Q := by
  obtain ⟨h3, h4⟩ := idx_ok h1 h2 (mLn_le _ _ hn)
  have := mAr_le _ _ ha
  refine z_mem hd rfl rfl (fun _ => rfl) rfl ?_ w
  show (match (hM m h0 B).1 (m + 1 + a) with | some (.inl (t, n, f)) => _ | _ => _) = _
  rw [hM_a ha hn]
  dsimp only
  have ha9 : m + 1 + a < 1000000000 := by omega
  rw [if_pos ⟨ha9, h3⟩, if_neg (by rw [ht]; decide), if_pos ht]
  have e := hM_putA (m := m) (h0 := h0) (B := B) (x := (Int32.ofInt z).toNatClampNeg) (z := v) ha hn
  rw [h4, ht] at e
  rw [← e, ht]
  show some (st, qup _ _ (.inl (3, n, updV _ _ (narrow .boolean (iv v))))) = _
  rw [nar_Z hv]
  rfl
theorem z_ldc {idx : Nat} {c : Int} (hd : decode (q_ms k).2.2.1 pc = .ok (.ldc idx, 2)) (hown : (q_ms k).2.1 = 11) (hc : q_con 11 idx = some (Int32.ofInt c)) (w : qZ m h0 d k (pc + 2) L (iv c :: st) B Q) : qZ m h0 d k pc L st B Q := by
  refine z_mem hd rfl rfl (fun _ => rfl) rfl ?_ w
  show (q_con (q_ms k).2.1 idx).map _ = _
  rw [hown, hc]
  rfl
theorem z_ldc2 {idx : Nat} {c : Int} (hd : decode (q_ms k).2.2.1 pc = .ok (.ldc2_w idx, 3)) (hown : (q_ms k).2.1 = 11) (hc : q_conL 11 idx = some (Int64.ofInt c)) (w : qZ m h0 d k (pc + 3) L (wv c :: st) B Q) : qZ m h0 d k pc L st B Q := by
  refine z_mem hd rfl rfl (fun _ => rfl) rfl ?_ w
  show (q_conL (q_ms k).2.1 idx).map _ = _
  rw [hown, hc]
  rfl
theorem z_end {o : qO} {i : Instr} {len : Nat} {v : Option Value} (hd : decode (q_ms k).2.2.1 pc = .ok (i, len)) (hl : q_lok i len = true) (ho : q_op i st = none) (ho2 : ∀ env, q_loc (q_ms k).2.2.2.1 i len env st = none) (hj : q_jmp i pc st = none) (hmm : q_mem (q_ms k).2.1 ((q_ms k).1 == 2) i st (hM m h0 B) = none) (hr : q_ret (q_ms k).2.2.2.2.1 i st = some v) (w : Q (.inl v) B) : qZ m h0 d k pc L st B Q := by
  refine ⟨1, .inl v, B, fun env _ => ?_, w⟩
  unfold q_run
  rw [hd]
  dsimp only
  rw [if_pos hl, ho]
  dsimp only
  rw [ho2]
  dsimp only
  rw [hj]
  dsimp only
  rw [hmm]
  dsimp only
  rw [hr]
theorem z_retI {z : Int} (hd : decode (q_ms k).2.2.1 pc = .ok (.ireturn, 1)) (hrt : (q_ms k).2.2.2.2.1 = some .int) (w : Q (.inl (some (iv z))) B) : qZ m h0 d k pc L [iv z] B Q :=
  z_end (o := .inl none) hd rfl rfl (fun _ => rfl) rfl rfl (by rw [hrt]; show (if narrow .int (iv z) = iv z then some (some (iv z)) else none) = _; exact if_pos rfl) w
theorem z_retZ {z : Int} (hd : decode (q_ms k).2.2.1 pc = .ok (.ireturn, 1)) (hrt : (q_ms k).2.2.2.2.1 = some .boolean) (hz : z = 0 ∨ z = 1) (w : Q (.inl (some (iv z))) B) : qZ m h0 d k pc L [iv z] B Q :=
  z_end (o := .inl none) hd rfl rfl (fun _ => rfl) rfl rfl (by rw [hrt]; rcases hz with rfl | rfl <;> rfl) w
theorem z_retL {z : Int} (hd : decode (q_ms k).2.2.1 pc = .ok (.lreturn, 1)) (hrt : (q_ms k).2.2.2.2.1 = some .long) (w : Q (.inl (some (wv z))) B) : qZ m h0 d k pc L [wv z] B Q :=
  z_end (o := .inl none) hd rfl rfl (fun _ => rfl) rfl rfl (by rw [hrt]; rfl) w
theorem z_ret0 (hd : decode (q_ms k).2.2.1 pc = .ok (.return_, 1)) (hrt : (q_ms k).2.2.2.2.1 = none) (w : Q (.inl none) B) : qZ m h0 d k pc L [] B Q :=
  z_end (o := .inl none) hd rfl rfl (fun _ => rfl) rfl rfl (by rw [hrt]; rfl) w
theorem z_call {k' : Nat} {as r : List Value} {i : Instr} (hd : decode (q_ms k).2.2.1 pc = .ok (i, 3)) (hl : q_lok i 3 = true) (ho : q_op i st = none) (ho2 : ∀ env, q_loc (q_ms k).2.2.2.1 i 3 env st = none) (hj : q_jmp i pc st = none) (hmm : q_mem (q_ms k).2.1 ((q_ms k).1 == 2) i st (hM m h0 B) = none) (hr : q_ret (q_ms k).2.2.2.2.1 i st = none) (hth : q_throw (q_ms k).2.1 (q_ms k).2.2.1 pc i st = none) (hinv : q_inv (q_ms k).2.1 i st (hM m h0 B) = some (k', as, r))
    (hsl : (lg_sl as).length ≤ (q_ms k').2.2.2.1 ∧ (q_ms k').2.2.2.1 ≤ 80 ∧ (r.map fun v => v.category).sum ≤ 8) {n : Nat} (hcat : ∀ v ∈ as, v.category = 1) (w : qZ m h0 d k' 0 (as.map some ++ List.replicate n none) [] B (fun o B' => ∃ v, o = .inl v ∧ qZ m h0 (d + 1) k (pc + 3) L (v.toList ++ r) B' Q)) : qZ m h0 (d + 1) k pc L st B Q := by
  obtain ⟨N1, o1, B1, h1, v, rfl, N2, o2, B2, h2, hq⟩ := w
  refine ⟨max N1 N2 + 1, o2, B2, fun env he => ?_, hq⟩
  have c1 := q_run_le _ _ _ _ _ _ _ _ (h1 (lv_args 0 as) (fun i v h => by have := EL_args as 0 n hcat i v h; rwa [Nat.zero_add] at this)) (max N1 N2) d (Nat.le_max_left ..) (Nat.le_refl _)
  have c2 := q_run_le _ _ _ _ _ _ _ _ (h2 env he) (max N1 N2) (d + 1) (Nat.le_max_right ..) (Nat.le_refl _)
  unfold q_run
  rw [hd]
  dsimp only
  rw [if_pos hl, ho]
  dsimp only
  rw [ho2]
  dsimp only
  rw [hj]
  dsimp only
  rw [hmm]
  dsimp only
  rw [hr]
  dsimp only
  rw [hth]
  dsimp only
  rw [hinv]
  dsimp only
  rw [if_pos hsl, c1]
  exact c2
theorem z_virt {idx k' np n : Nat} {as r : List Value} (hd : decode (q_ms k).2.2.1 pc = .ok (.invokevirtual idx, 3)) (hown : (q_ms k).2.1 = 11) (hmt : q_mth 11 idx = some k') (hk : (q_ms k').1 = 0 ∧ (q_ms k').2.1 = 11 ∧ (q_ms k').2.2.2.2.2.1 = np) (hlen : as.length = np) {nL : Nat} (hN : (q_ms k').2.2.2.1 = nL) (hs1 : Nat.ble (lg_sl (.ref m :: as)).length nL = true) (hs2 : Nat.ble nL 80 = true) (hs3 : Nat.ble (r.map fun v => v.category).sum 8 = true) (hcat : as.all (fun v => v.category == 1) = true)
    (w : qZ m h0 d k' 0 ((.ref m :: as).map some ++ List.replicate n none) [] B (fun o B' => ∃ v, o = .inl v ∧ qZ m h0 (d + 1) k (pc + 3) L (v.toList ++ r) B' Q)) : qZ m h0 (d + 1) k pc L (as.reverse ++ .ref m :: r) B Q := by
  refine z_call hd rfl rfl (fun _ => rfl) rfl rfl rfl rfl ?_ ⟨by rw [hN]; exact Nat.le_of_ble_eq_true hs1, by rw [hN]; exact Nat.le_of_ble_eq_true hs2, Nat.le_of_ble_eq_true hs3⟩ (n := n) (fun v hv => ?_) w
  · show (match q_mth (q_ms k).2.1 idx with | some k => _ | none => _) = _
    rw [hown, hmt]
    dsimp only
    obtain ⟨e1, e2, e3⟩ := hk
    have hl2 : as.reverse.length = np := by rw [List.length_reverse]; exact hlen
    rw [e1, e3, if_pos ⟨rfl, by simp; omega⟩, List.drop_left' hl2]
    dsimp only
    rw [hM_o]
    dsimp only
    rw [e2, if_pos ⟨rfl, by decide⟩, List.take_left' hl2, List.reverse_reverse]
  · rcases List.mem_cons.mp hv with rfl | h
    · rfl
    · simpa using List.all_eq_true.mp hcat v h
theorem z_stat {idx k' np n : Nat} {as r : List Value} (hd : decode (q_ms k).2.2.1 pc = .ok (.invokestatic idx, 3)) (hown : (q_ms k).2.1 = 11) (hmt : q_mth 11 idx = some k') (hmm : q_mm 11 idx = none ∧ q_cpy 11 idx = false) (hk : (q_ms k').1 = 1 ∧ (q_ms k').2.2.2.2.2.1 = np) (hlen : as.length = np) {nL : Nat} (hN : (q_ms k').2.2.2.1 = nL) (hs1 : Nat.ble (lg_sl as).length nL = true) (hs2 : Nat.ble nL 80 = true) (hs3 : Nat.ble (r.map fun v => v.category).sum 8 = true) (hcat : as.all (fun v => v.category == 1) = true)
    (w : qZ m h0 d k' 0 (as.map some ++ List.replicate n none) [] B (fun o B' => ∃ v, o = .inl v ∧ qZ m h0 (d + 1) k (pc + 3) L (v.toList ++ r) B' Q)) : qZ m h0 (d + 1) k pc L (as.reverse ++ r) B Q := by
  refine z_call hd rfl rfl (fun _ => rfl) rfl ?_ rfl rfl ?_ ⟨by rw [hN]; exact Nat.le_of_ble_eq_true hs1, by rw [hN]; exact Nat.le_of_ble_eq_true hs2, Nat.le_of_ble_eq_true hs3⟩ (n := n) (fun v hv => by simpa using List.all_eq_true.mp hcat v hv) w
  · show (match q_mm (q_ms k).2.1 idx with | some b => _ | none => if q_cpy (q_ms k).2.1 idx = true then _ else none) = none
    rw [hown, hmm.1, hmm.2]
    rfl
  · show (match q_mth (q_ms k).2.1 idx with | some k => _ | none => _) = _
    rw [hown, hmt]
    dsimp only
    obtain ⟨e1, e3⟩ := hk
    have hl2 : as.reverse.length = np := by rw [List.length_reverse]; exact hlen
    rw [e1, e3, if_pos ⟨Or.inl rfl, by simp; omega⟩, List.take_left' hl2, List.drop_left' hl2, List.reverse_reverse]
end ZR
