/-! what holds at every entry: classes, arrays, links of the nest, texts of the throws, the statics -/
def q_isCD : Cond → Bool
  | .castable _ _ => true
  | .declares _ => true
  | _ => false
def q_ANW : List Cond := q_NW ++ tables_1.filter q_isCD
def q_kin : Cond → Bool
  | .castable _ _ => true
  | .declares _ => true
  | .methodLinkNest _ _ _ _ => true
  | .fieldLinkNest _ _ _ _ _ _ => true
  | _ => false
theorem q_ANW_kin : ∀ w ∈ q_ANW, q_kin w = true := by
  intro w hw
  rcases List.mem_append.mp hw with h | h
  · exact List.all_eq_true.mp (show q_NW.all q_kin = true by decide +kernel) w h
  · have := (List.mem_filter.mp h).2
    cases w <;> first | rfl | cases this
theorem q_Nw_warm {w : Cond} {s U : State} (hk : q_kin w = true) (hW : s.WarmedH U.vm) (h : va_Nw w s) : va_Nw w U := by
  cases w <;> first | exact va_Nw.warmC hW h | exact va_Nw.warmD hW h | exact va_Nw.warmM hW h | exact va_Nw.warmF hW h | cases hk
def q_STR : List (Nat × String) := [(99, "the tape would be too long"), (112, "n is not 0 .. the length of the tape"), (259, "p is not 0 .. 7"), (132, "the pattern is broken"), (142, "the pattern is too heavy"), (261, "t is not 0 .. 3"), (157, "the text is too long"), (163, "how is not 0 .. 2"), (267, "the pattern is none"), (169, "a is no place of the text"), (186, "i is not 0 .. 9"), (263, "part is not 0 or 1"), (270, "the text has more than 300 bytes"), (207, "there is no such match"), (216, "the replacement is broken"), (224, "the text would be too long"), (230, "in is not 0 or 1"), (237, "the pattern is not one set"), (246, "i is no byte of the text"), (254, "what is none of those that are counted")]
def qAmb (D : va_G) (dA : Nat → ClassId) (sC : qS) (H0 : Heap) (U : State) : Prop :=
  va_K D hcl (htys dA) U ∧ (∀ w ∈ q_ANW, va_Nw w U) ∧ (va_AO RX1 U ∧ va_AO RX5 U) ∧ (∀ e ∈ q_STR, ∃ sa, vk_R RX10 e.1 e.2 sa U) ∧ vx_Zq Bundle.tN "UNASSIGNED_STACK" Bundle.steD (fun q => H0.size ≤ q) U H0 ∧ vx_Zq Bundle.tN "SUPPRESSED_SENTINEL" Bundle.listD (fun q => H0.size ≤ q) U H0 ∧ va_Z RX10 "CLASSES" "[I" (.ref sC.1.1) (fun q => H0.size ≤ q) U H0 ∧ q_SX sC H0 U
theorem qAmb.warm {D : va_G} {dA : Nat → ClassId} {sC : qS} {H0 : Heap} {s U : State} (hW : s.WarmedH U.vm) (h : qAmb D dA sC H0 s) : qAmb D dA sC H0 U := by
  obtain ⟨h1, h2, ⟨h3, h3'⟩, h4, h5, h6, h7, h8⟩ := h
  refine ⟨va_K.moved hW.alike h1, fun w hw => q_Nw_warm (q_ANW_kin w hw) hW (h2 w hw), ⟨va_AO.moved hW.alike h3, va_AO.moved hW.alike h3'⟩, fun e he => ?_, vx_Zq.moved hW.alike h5, vx_Zq.moved hW.alike h6, va_Z.moved hW.alike h7, va_X.moved hW.alike h8.1, va_X.moved hW.alike h8.2⟩
  obtain ⟨sa, hsa⟩ := h4 e he
  exact ⟨sa, vk_R.warm hW hsa⟩
/-! the pure machine's heap steps -/
def q_getf (own idx : Nat) (st : List Value) (h : qH) : Option (List Value × qH) := match q_fld own idx with
  | none => none
  | some (k, j) => match st with
    | .ref a :: r => match h.1 a with
      | some (.inr (k', vs)) => if k' = k then (match vs[j]? with
        | some v => some (v :: r, h)
        | none => none) else none
      | _ => none
    | _ => none
def q_putf (own : Nat) (ini : Bool) (idx : Nat) (st : List Value) (h : qH) : Option (List Value × qH) := match q_fld own idx with
  | none => none
  | some (k, j) => match st with
    | v :: .ref a :: r => match h.1 a with
      | some (.inr (k', vs)) => if k' = k ∧ a < 1000000000 ∧ j < vs.length ∧ q_fit (qTy k j) v = true ∧ ((qF k j).2.2.2 = false ∨ (ini = true ∧ (qF k j).1 = oN own)) then some (r, qup h a (.inr (k, vs.set j v))) else none
      | _ => none
    | _ => none
def q_ald (ok : Nat → Bool) (st : List Value) (h : qH) : Option (List Value × qH) := match st with
  | .int i :: .ref a :: r => match h.1 a with
    | some (.inl (t, n, f)) => if ok t = true ∧ q_idx i n = true then some (f i.toNatClampNeg :: r, h) else none
    | _ => none
  | _ => none
def q_alen (st : List Value) (h : qH) : Option (List Value × qH) := match st with
  | .ref a :: r => match h.1 a with
    | some (.inl (t, n, _)) => if t < 6 then some (.int (nI n) :: r, h) else none
    | _ => none
  | _ => none
def q_iast (st : List Value) (h : qH) : Option (List Value × qH) := match st with
  | .int x :: .int i :: .ref a :: r => match h.1 a with
    | some (.inl (t, n, f)) => if t = 1 ∧ a < 1000000000 ∧ q_idx i n = true then some (r, qup h a (.inl (1, n, updV f i.toNatClampNeg (.int x)))) else none
    | _ => none
  | _ => none
def q_last (st : List Value) (h : qH) : Option (List Value × qH) := match st with
  | .long x :: .int i :: .ref a :: r => match h.1 a with
    | some (.inl (t, n, f)) => if t = 2 ∧ a < 1000000000 ∧ q_idx i n = true then some (r, qup h a (.inl (2, n, updV f i.toNatClampNeg (.long x)))) else none
    | _ => none
  | _ => none
def q_bast (st : List Value) (h : qH) : Option (List Value × qH) := match st with
  | .int x :: .int i :: .ref a :: r => match h.1 a with
    | some (.inl (t, n, f)) => if a < 1000000000 ∧ q_idx i n = true then (if t = 0 then some (r, qup h a (.inl (0, n, updV f i.toNatClampNeg (narrow .byte (.int x))))) else if t = 3 then some (r, qup h a (.inl (3, n, updV f i.toNatClampNeg (narrow .boolean (.int x))))) else none) else none
    | _ => none
  | _ => none
def q_aast (st : List Value) (h : qH) : Option (List Value × qH) := match st with
  | .ref b :: .int i :: .ref a :: r => match h.1 a with
    | some (.inl (t, n, f)) => match h.1 b with
      | some (.inr (k, _)) => if ((t = 4 ∧ k = 1) ∨ (t = 5 ∧ k = 5)) ∧ a < 1000000000 ∧ q_idx i n = true then some (r, qup h a (.inl (t, n, updV f i.toNatClampNeg (.ref b)))) else none
      | _ => none
    | _ => none
  | _ => none
def q_newo (own idx : Nat) (st : List Value) (h : qH) : Option (List Value × qH) := match q_cls own idx with
  | some k => if h.2.1 < 1000000000 then some (.ref h.2.1 :: st, qnew h (.inr (k, (List.range (qN k)).map (fun j => defaultValue (qTy k j)))) (qN k)) else none
  | none => none
def q_aty : ArrayType → Option Nat
  | .byte => some 0
  | .int => some 1
  | .long => some 2
  | .boolean => some 3
  | _ => none
def q_newa (t : ArrayType) (st : List Value) (h : qH) : Option (List Value × qH) := match q_aty t with
  | some k => match st with
    | .int i :: r => if h.2.1 < 1000000000 ∧ ¬ i < 0 ∧ i.toNatClampNeg ≤ 67108864 then some (.ref h.2.1 :: r, qnew h (.inl (k, i.toNatClampNeg, fun _ => defaultValue (newarray.typeOf t))) i.toNatClampNeg) else none
    | _ => none
  | none => none
def q_anew (own idx : Nat) (st : List Value) (h : qH) : Option (List Value × qH) := match q_cls own idx with
  | some k => match st with
    | .int i :: r => if (k = 1 ∨ k = 5) ∧ h.2.1 < 1000000000 ∧ ¬ i < 0 ∧ i.toNatClampNeg ≤ 67108864 then some (.ref h.2.1 :: r, qnew h (.inl (if k = 1 then 4 else 5, i.toNatClampNeg, fun _ => .null)) i.toNatClampNeg) else none
    | _ => none
  | none => none
def q_cty (t : Nat) : FieldType := if t = 0 then .byte else .int
def q_copy (st : List Value) (h : qH) : Option (List Value × qH) := match st with
  | .int n :: .int dp :: .ref a1 :: .int sp :: .ref a0 :: r => match h.1 a0 with
    | some (.inl (t0, n0, f)) => match h.1 a1 with
      | some (.inl (t1, n1, g)) => if t0 = t1 ∧ t0 < 2 ∧ a1 < 1000000000 ∧ a0 < 1000000000 ∧ ¬ sp < 0 ∧ ¬ dp < 0 ∧ ¬ n < 0 ∧ sp.toNatClampNeg + n.toNatClampNeg ≤ n0 ∧ dp.toNatClampNeg + n.toNatClampNeg ≤ n1 ∧ (List.range n.toNatClampNeg).all (fun i => fits (q_cty t0) (f (sp.toNatClampNeg + i))) = true ∧ (r.map fun v => v.category).sum ≤ 8 then some (r, qup h a1 (.inl (t1, n1, va_cpy f g sp.toNatClampNeg dp.toNatClampNeg n.toNatClampNeg))) else none
      | _ => none
    | _ => none
  | _ => none
def q_mem (own : Nat) (ini : Bool) (i : Instr) (st : List Value) (h : qH) : Option (List Value × qH) := match i with
  | .getfield idx => q_getf own idx st h
  | .putfield idx => q_putf own ini idx st h
  | .iaload => q_ald (fun t => t == 1) st h
  | .laload => q_ald (fun t => t == 2) st h
  | .baload => q_ald (fun t => t == 0 || t == 3) st h
  | .aaload => q_ald (fun t => t == 4 || t == 5) st h
  | .arraylength => q_alen st h
  | .iastore => q_iast st h
  | .lastore => q_last st h
  | .bastore => q_bast st h
  | .aastore => q_aast st h
  | .new idx => q_newo own idx st h
  | .newarray t => q_newa t st h
  | .anewarray idx => q_anew own idx st h
  | .ldc idx => (q_con own idx).map (fun v => (.int v :: st, h))
  | .ldc_w idx => (q_con own idx).map (fun v => (.int v :: st, h))
  | .ldc2_w idx => (q_conL own idx).map (fun v => (.long v :: st, h))
  | .getstatic idx => if own = 7 ∧ idx = 27 then some (.ref 1000000000 :: st, h) else none
  | .invokespecial idx => if q_obj own idx = true then (match st with
    | .ref _ :: r => if (r.map fun v => v.category).sum ≤ 8 then some (r, h) else none
    | _ => none) else none
  | .invokestatic idx => match q_mm own idx with
    | some b => match st with
      | .int y :: .int x :: r => if (r.map fun v => v.category).sum ≤ 8 then some (.int (if b = true then (if x < y then y else x) else (if y < x then y else x)) :: r, h) else none
      | _ => none
    | none => if q_cpy own idx = true then q_copy st h else none
  | _ => none
/-- the throws: class, constructor -/
def q_thr (own ik : Nat) : Option (String × Nat) := if own = 10 then (match ik with
  | 97 => some ("java/lang/IndexOutOfBoundsException", 101)
  | 110 => some ("java/lang/IllegalArgumentException", 114)
  | 130 => some ("java/lang/UnsupportedOperationException", 134)
  | 222 => some ("java/lang/IllegalStateException", 226)
  | 235 => some ("java/lang/ClassCastException", 239)
  | 265 => some ("java/util/NoSuchElementException", 269)
  | _ => none) else none
def q_isS (is : Nat) : Bool := (q_STR.find? (fun e => e.1 == is)).isSome
/-- 'throw new E("..")' at pc -/
def q_throw (own : Nat) (cc : ByteArray) (pc : Nat) (i : Instr) (st : List Value) : Option String := match i with
  | .new ik => match q_thr own ik with
    | some (E, ic) => match decode cc (pc + 3), decode cc (pc + 4) with
      | .ok (.dup, 1), .ok (.ldc is, 2) => match decode cc (pc + 6), decode cc (pc + 9) with
        | .ok (.invokespecial ic', 3), .ok (.athrow, 1) => if ic' = ic ∧ q_isS is = true ∧ (st.map fun v => v.category).sum ≤ 8 then some E else none
        | _, _ => none
      | .ok (.dup, 1), .ok (.ldc_w is, 3) => match decode cc (pc + 7), decode cc (pc + 10) with
        | .ok (.invokespecial ic', 3), .ok (.athrow, 1) => if ic' = ic ∧ q_isS is = true ∧ (st.map fun v => v.category).sum ≤ 8 then some E else none
        | _, _ => none
      | _, _ => none
    | none => none
  | _ => none
def q_ret (rt : Option ClassFile.FieldType) (i : Instr) (st : List Value) : Option (Option Value) := match i with
  | .return_ => match st, rt with
    | [], none => some none
    | _, _ => none
  | .ireturn => match st, rt with
    | [.int v], some ty => if narrow ty (.int v) = .int v then some (some (.int v)) else none
    | _, _ => none
  | .lreturn => match st, rt with
    | [.long v], some .long => some (some (.long v))
    | _, _ => none
  | .areturn => match st, rt with
    | [.ref v], some (.object _) => some (some (.ref v))
    | [.ref v], some (.array _) => some (some (.ref v))
    | _, _ => none
  | _ => none
/-- the arguments of a call, taken off the stack: the method's number, its arguments, what stays -/
def q_inv (own : Nat) (i : Instr) (st : List Value) (h : qH) : Option (Nat × List Value × List Value) := match i with
  | .invokevirtual idx => match q_mth own idx with
    | some k => if (q_ms k).1 = 0 ∧ (q_ms k).2.2.2.2.2.1 ≤ st.length then (match st.drop (q_ms k).2.2.2.2.2.1 with
      | .ref b :: r => match h.1 b with
        | some (.inr (c, _)) => if c = (q_ms k).2.1 ∧ c < 12 then some (k, .ref b :: (st.take (q_ms k).2.2.2.2.2.1).reverse, r) else none
        | _ => none
      | _ => none) else none
    | none => none
  | .invokespecial idx => match q_mth own idx with
    | some k => if (q_ms k).1 = 2 ∧ (q_ms k).2.2.2.2.2.1 ≤ st.length then (match st.drop (q_ms k).2.2.2.2.2.1 with
      | .ref b :: r => some (k, .ref b :: (st.take (q_ms k).2.2.2.2.2.1).reverse, r)
      | _ => none) else none
    | none => none
  | .invokestatic idx => match q_mth own idx with
    | some k => if ((q_ms k).1 = 1 ∨ (q_ms k).1 = 3) ∧ (q_ms k).2.2.2.2.2.1 ≤ st.length then some (k, (st.take (q_ms k).2.2.2.2.2.1).reverse, st.drop (q_ms k).2.2.2.2.2.1) else none
    | none => none
  | _ => none
def q_lok (i : Instr) (len : Nat) : Bool := match i with
  | .tableswitch _ _ _ _ => true
  | .lookupswitch _ _ => true
  | _ => len == q_len i
abbrev qO : Type := (Option Value) ⊕ String
/-- THE PURE MACHINE: N steps at most, calls at most d deep; in method M, at pc -/
def q_run : Nat → Nat → qM → Nat → qL → List Value → qH → Option (qO × qH)
  | 0, _, _, _, _, _, _ => none
  | N + 1, d, M, pc, env, st, h => match decode M.2.2.1 pc with
    | .error _ => none
    | .ok (i, len) => if q_lok i len = true then (match q_op i st with
      | some st' => q_run N d M (pc + len) env st' h
      | none => match q_loc M.2.2.2.1 i len env st with
        | some (env', st') => q_run N d M (pc + len) env' st' h
        | none => match q_jmp i pc st with
          | some (pc', st') => q_run N d M pc' env st' h
          | none => match q_mem M.2.1 (M.1 == 2) i st h with
            | some (st', h') => q_run N d M (pc + len) env st' h'
            | none => match q_ret M.2.2.2.2.1 i st with
              | some v => some (.inl v, h)
              | none => match q_throw M.2.1 M.2.2.1 pc i st with
                | some E => some (.inr E, (h.1, h.2.1 + 1, h.2.2 + 6))
                | none => match q_inv M.2.1 i st h with
                  | some (k, as, r) => (match d with
                    | 0 => none
                    | d' + 1 => if (lg_sl as).length ≤ (q_ms k).2.2.2.1 ∧ (q_ms k).2.2.2.1 ≤ 80 ∧ (r.map fun v => v.category).sum ≤ 8 then (match q_run N d' (q_ms k) 0 (lv_args 0 as) [] h with
                      | some (.inl v, h') => q_run N d M (pc + 3) env (v.toList ++ r) h'
                      | some (.inr E, h') => if (q_ms k).1 < 2 then some (.inr E, h') else none
                      | none => none) else none)
                  | none => none) else none
