/-! THE CONSTRUCTORS: a machine over plain data (objects, arrays as a default and a list of changes), and that the pure machine follows it -/
abbrev dE : Type := (Nat × List Value) ⊕ (Nat × Nat × Value × List (Nat × Value))
abbrev dH : Type := List dE × Nat
def dget (v0 : Value) : List (Nat × Value) → Nat → Value
  | [], _ => v0
  | e :: t, j => if j = e.1 then e.2 else dget v0 t j
def dcell : dE → qE
  | .inl (k, vs) => .inr (k, vs)
  | .inr (t, n, v0, u) => .inl (t, n, dget v0 u)
/-- the heap that the data stand for; what lies beyond them is bg -/
def dI (bg : Nat → Option qE) (D : dH) : qH := (fun i => if i < D.1.length then (D.1[i]?).map dcell else bg i, D.1.length, D.2)
section DH
variable {bg : Nat → Option qE} {D : dH}
theorem dI_at {a : Nat} {c : dE} (h : D.1[a]? = some c) : (dI bg D).1 a = some (dcell c) := by
  have hl : a < D.1.length := (List.getElem?_eq_some_iff.mp h).1
  show (if a < D.1.length then (D.1[a]?).map dcell else bg a) = _
  rw [if_pos hl, h]
  rfl
theorem dI_set {a : Nat} {c : dE} (h : a < D.1.length) : qup (dI bg D) a (dcell c) = dI bg (D.1.set a c, D.2) := by
  refine Prod.ext (funext fun i => ?_) ?_
  · show (if i = a then some (dcell c) else if i < D.1.length then (D.1[i]?).map dcell else bg i) = (if i < (D.1.set a c).length then ((D.1.set a c)[i]?).map dcell else bg i)
    rw [List.length_set]
    by_cases e : i = a
    · subst e
      rw [if_pos rfl, if_pos h, List.getElem?_set_self h]
      rfl
    · rw [if_neg e, List.getElem?_set_ne (fun q => e q.symm)]
  · show (D.1.length, D.2) = ((D.1.set a c).length, D.2)
    rw [List.length_set]
theorem dI_new {c : dE} {k : Nat} : qnew (dI bg D) (dcell c) k = dI bg (D.1 ++ [c], D.2 + k) := by
  refine Prod.ext (funext fun i => ?_) ?_
  · show (if i = D.1.length then some (dcell c) else if i < D.1.length then (D.1[i]?).map dcell else bg i) = (if i < (D.1 ++ [c]).length then ((D.1 ++ [c])[i]?).map dcell else bg i)
    rw [List.length_append]
    by_cases e : i = D.1.length
    · subst e
      rw [if_pos rfl, if_pos (by simp), List.getElem?_append_right (Nat.le_refl _), Nat.sub_self]
      rfl
    · rw [if_neg e]
      by_cases q : i < D.1.length
      · rw [if_pos q, if_pos (by simp; omega), List.getElem?_append_left q]
      · rw [if_neg q, if_neg (by simp; omega)]
  · show (D.1.length + 1, D.2 + k) = ((D.1 ++ [c]).length, D.2 + k)
    rw [List.length_append]
    rfl
end DH
def d_getf (own idx : Nat) (st : List Value) (D : dH) : Option (List Value × dH) := match q_fld own idx with
  | none => none
  | some (k, j) => match st with
    | .ref a :: r => match D.1[a]? with
      | some (.inl (k', vs)) => if k' = k then (match vs[j]? with
        | some v => some (v :: r, D)
        | none => none) else none
      | _ => none
    | _ => none
def d_putf (own : Nat) (ini : Bool) (idx : Nat) (st : List Value) (D : dH) : Option (List Value × dH) := match q_fld own idx with
  | none => none
  | some (k, j) => match st with
    | v :: .ref a :: r => match D.1[a]? with
      | some (.inl (k', vs)) => if k' = k ∧ a < 1000000000 ∧ j < vs.length ∧ q_fit (qTy k j) v = true ∧ ((qF k j).2.2.2 = false ∨ (ini = true ∧ (qF k j).1 = oN own)) then some (r, (D.1.set a (.inl (k, vs.set j v)), D.2)) else none
      | _ => none
    | _ => none
def d_alen (st : List Value) (D : dH) : Option (List Value × dH) := match st with
  | .ref a :: r => match D.1[a]? with
    | some (.inr (t, n, _, _)) => if t < 6 then some (.int (nI n) :: r, D) else none
    | _ => none
  | _ => none
def d_iast (st : List Value) (D : dH) : Option (List Value × dH) := match st with
  | .int x :: .int i :: .ref a :: r => match D.1[a]? with
    | some (.inr (t, n, v0, u)) => if t = 1 ∧ a < 1000000000 ∧ q_idx i n = true then some (r, (D.1.set a (.inr (1, n, v0, (i.toNatClampNeg, .int x) :: u)), D.2)) else none
    | _ => none
  | _ => none
def d_aast (st : List Value) (D : dH) : Option (List Value × dH) := match st with
  | .ref b :: .int i :: .ref a :: r => match D.1[a]? with
    | some (.inr (t, n, v0, u)) => match D.1[b]? with
      | some (.inl (k, _)) => if ((t = 4 ∧ k = 1) ∨ (t = 5 ∧ k = 5)) ∧ a < 1000000000 ∧ q_idx i n = true then some (r, (D.1.set a (.inr (t, n, v0, (i.toNatClampNeg, .ref b) :: u)), D.2)) else none
      | _ => none
    | _ => none
  | _ => none
def d_newo (own idx : Nat) (st : List Value) (D : dH) : Option (List Value × dH) := match q_cls own idx with
  | some k => if D.1.length < 1000000000 then some (.ref D.1.length :: st, (D.1 ++ [.inl (k, (List.range (qN k)).map (fun j => defaultValue (qTy k j)))], D.2 + qN k)) else none
  | none => none
def d_newa (t : ArrayType) (st : List Value) (D : dH) : Option (List Value × dH) := match q_aty t with
  | some k => match st with
    | .int i :: r => if D.1.length < 1000000000 ∧ ¬ i < 0 ∧ i.toNatClampNeg ≤ 67108864 then some (.ref D.1.length :: r, (D.1 ++ [.inr (k, i.toNatClampNeg, defaultValue (newarray.typeOf t), [])], D.2 + i.toNatClampNeg)) else none
    | _ => none
  | none => none
def d_anew (own idx : Nat) (st : List Value) (D : dH) : Option (List Value × dH) := match q_cls own idx with
  | some k => match st with
    | .int i :: r => if (k = 1 ∨ k = 5) ∧ D.1.length < 1000000000 ∧ ¬ i < 0 ∧ i.toNatClampNeg ≤ 67108864 then some (.ref D.1.length :: r, (D.1 ++ [.inr (if k = 1 then 4 else 5, i.toNatClampNeg, .null, [])], D.2 + i.toNatClampNeg)) else none
    | _ => none
  | none => none
def d_mem (own : Nat) (ini : Bool) (i : Instr) (st : List Value) (D : dH) : Option (List Value × dH) := match i with
  | .getfield idx => d_getf own idx st D
  | .putfield idx => d_putf own ini idx st D
  | .arraylength => d_alen st D
  | .iastore => d_iast st D
  | .aastore => d_aast st D
  | .new idx => d_newo own idx st D
  | .newarray t => d_newa t st D
  | .anewarray idx => d_anew own idx st D
  | .ldc idx => (q_con own idx).map (fun v => (.int v :: st, D))
  | .invokespecial idx => if q_obj own idx = true then (match st with
    | .ref _ :: r => if (r.map fun v => v.category).sum ≤ 8 then some (r, D) else none
    | _ => none) else none
  | .invokestatic idx => match q_mm own idx with
    | some b => match st with
      | .int y :: .int x :: r => if (r.map fun v => v.category).sum ≤ 8 then some (.int (if b = true then (if x < y then y else x) else (if y < x then y else x)) :: r, D) else none
      | _ => none
    | none => none
  | _ => none
theorem dget_up {v0 v : Value} {u : List (Nat × Value)} {i : Nat} : updV (dget v0 u) i v = dget v0 ((i, v) :: u) := by
  funext j
  rfl
section DM
variable {bg : Nat → Option qE} {D D' : dH} {own : Nat} {ini : Bool} {st st' : List Value}
theorem d_getf_s {idx : Nat} (h : d_getf own idx st D = some (st', D')) : q_getf own idx st (dI bg D) = some (st', dI bg D') := by
  unfold d_getf at h
  unfold q_getf
  split at h
  · cases h
  · rename_i k j hf
    try rw [hf]
    try dsimp only
    split at h
    · rename_i a r
      split at h
      · rename_i k' vs ha
        try dsimp only
        rw [dI_at ha]
        dsimp only [dcell]
        split at h
        · rename_i hk
          rw [if_pos hk]
          split at h
          · rename_i v hv
            cases h
            try rw [hv]
          · cases h
        · cases h
      · cases h
    · cases h
theorem d_putf_s {idx : Nat} (h : d_putf own ini idx st D = some (st', D')) : q_putf own ini idx st (dI bg D) = some (st', dI bg D') := by
  unfold d_putf at h
  unfold q_putf
  split at h
  · cases h
  · rename_i k j hf
    try rw [hf]
    try dsimp only
    split at h
    · rename_i v a r
      split at h
      · rename_i k' vs ha
        try dsimp only
        rw [dI_at ha]
        dsimp only [dcell]
        split at h
        · rename_i hk
          rw [if_pos hk]
          cases h
          rw [← dI_set (List.getElem?_eq_some_iff.mp ha).1]
          rfl
        · cases h
      · cases h
    · cases h
theorem d_alen_s (h : d_alen st D = some (st', D')) : q_alen st (dI bg D) = some (st', dI bg D') := by
  unfold d_alen at h
  unfold q_alen
  split at h
  · rename_i a r
    split at h
    · rename_i t n v0 u ha
      try dsimp only
      rw [dI_at ha]
      dsimp only [dcell]
      split at h
      · rename_i hk
        rw [if_pos hk]
        cases h
        rfl
      · cases h
    · cases h
  · cases h
theorem d_iast_s (h : d_iast st D = some (st', D')) : q_iast st (dI bg D) = some (st', dI bg D') := by
  unfold d_iast at h
  unfold q_iast
  split at h
  · rename_i x i a r
    split at h
    · rename_i t n v0 u ha
      try dsimp only
      rw [dI_at ha]
      dsimp only [dcell]
      split at h
      · rename_i hk
        rw [if_pos hk]
        cases h
        rw [← dI_set (List.getElem?_eq_some_iff.mp ha).1, dget_up]
        rfl
      · cases h
    · cases h
  · cases h
theorem d_aast_s (h : d_aast st D = some (st', D')) : q_aast st (dI bg D) = some (st', dI bg D') := by
  unfold d_aast at h
  unfold q_aast
  split at h
  · rename_i b i a r
    split at h
    · rename_i t n v0 u ha
      split at h
      · rename_i k vs hb
        try dsimp only
        rw [dI_at ha]
        dsimp only [dcell]
        rw [dI_at hb]
        dsimp only [dcell]
        split at h
        · rename_i hk
          rw [if_pos hk]
          cases h
          rw [← dI_set (List.getElem?_eq_some_iff.mp ha).1, dget_up]
          rfl
        · cases h
      · cases h
    · cases h
  · cases h
theorem d_newo_s {idx : Nat} (h : d_newo own idx st D = some (st', D')) : q_newo own idx st (dI bg D) = some (st', dI bg D') := by
  unfold d_newo at h
  unfold q_newo
  split at h
  · rename_i k hc
    try rw [hc]
    try dsimp only
    split at h
    · rename_i hk
      rw [if_pos (show (dI bg D).2.1 < 1000000000 from hk)]
      cases h
      rw [← dI_new]
      rfl
    · cases h
  · cases h
theorem d_newa_s {t : ArrayType} (h : d_newa t st D = some (st', D')) : q_newa t st (dI bg D) = some (st', dI bg D') := by
  unfold d_newa at h
  unfold q_newa
  split at h
  · rename_i k hc
    try rw [hc]
    try dsimp only
    split at h
    · rename_i i r
      split at h
      · rename_i hk
        try dsimp only
        rw [if_pos (show (dI bg D).2.1 < 1000000000 ∧ ¬ i < 0 ∧ i.toNatClampNeg ≤ 67108864 from hk)]
        cases h
        rw [← dI_new]
        rfl
      · cases h
    · cases h
  · cases h
theorem d_anew_s {idx : Nat} (h : d_anew own idx st D = some (st', D')) : q_anew own idx st (dI bg D) = some (st', dI bg D') := by
  unfold d_anew at h
  unfold q_anew
  split at h
  · rename_i k hc
    try rw [hc]
    try dsimp only
    split at h
    · rename_i i r
      split at h
      · rename_i hk
        try dsimp only
        rw [if_pos (show (k = 1 ∨ k = 5) ∧ (dI bg D).2.1 < 1000000000 ∧ ¬ i < 0 ∧ i.toNatClampNeg ≤ 67108864 from hk)]
        cases h
        rw [← dI_new]
        rfl
      · cases h
    · cases h
  · cases h
theorem d_mem_s {i : Instr} (h : d_mem own ini i st D = some (st', D')) : q_mem own ini i st (dI bg D) = some (st', dI bg D') := by
  unfold d_mem at h
  split at h
  · exact d_getf_s h
  · exact d_putf_s h
  · exact d_alen_s h
  · exact d_iast_s h
  · exact d_aast_s h
  · exact d_newo_s h
  · exact d_newa_s h
  · exact d_anew_s h
  · rename_i idx
    show (q_con own idx).map _ = _
    cases hc : q_con own idx with
    | none => rw [hc] at h; cases h
    | some v => rw [hc] at h; cases h; rfl
  · rename_i idx
    show (if q_obj own idx = true then _ else none) = _
    split at h
    · rename_i ho
      rw [if_pos ho]
      split at h
      · split at h
        · rename_i hk
          cases h
          exact if_pos hk
        · cases h
      · cases h
    · cases h
  · rename_i idx
    unfold q_mem
    dsimp only
    split at h
    · rename_i b hb
      rw [hb]
      dsimp only
      split at h
      · split at h
        · rename_i hk
          cases h
          exact if_pos hk
        · cases h
      · cases h
    · cases h
  · cases h
end DM
def hZ : qH := (fun _ => none, 0, 0)
/-- calls without a look at the heap -/
def d_inv (own : Nat) (i : Instr) (st : List Value) : Option (Nat × List Value × List Value) := match i with
  | .invokespecial idx => if q_obj own idx = true then none else q_inv own (.invokespecial idx) st hZ
  | .invokestatic idx => if q_mm own idx = none ∧ q_cpy own idx = false then q_inv own (.invokestatic idx) st hZ else none
  | _ => none
def d_ret (rt : Option ClassFile.FieldType) (i : Instr) (st : List Value) : Bool := match i with
  | .return_ => (match st, rt with
    | [], none => true
    | _, _ => false)
  | _ => false
def d_run : Nat → Nat → qM → Nat → qL → List Value → dH → Option dH
  | 0, _, _, _, _, _, _ => none
  | N + 1, d, M, pc, env, st, D => match decode M.2.2.1 pc with
    | .error _ => none
    | .ok (i, len) => if q_lok i len = true then (match q_op i st with
      | some st' => d_run N d M (pc + len) env st' D
      | none => match q_loc M.2.2.2.1 i len env st with
        | some (env', st') => d_run N d M (pc + len) env' st' D
        | none => match q_jmp i pc st with
          | some (pc', st') => d_run N d M pc' env st' D
          | none => match d_mem M.2.1 (M.1 == 2) i st D with
            | some (st', D') => d_run N d M (pc + len) env st' D'
            | none => if d_ret M.2.2.2.2.1 i st = true then some D else (match d_inv M.2.1 i st with
              | some (k, as, r) => (match d with
                | 0 => none
                | d' + 1 => if (lg_sl as).length ≤ (q_ms k).2.2.2.1 ∧ (q_ms k).2.2.2.1 ≤ 80 ∧ (r.map fun v => v.category).sum ≤ 8 then (match d_run N d' (q_ms k) 0 (lv_args 0 as) [] D with
                  | some D' => d_run N d M (pc + 3) env r D'
                  | none => none) else none)
              | none => none)) else none
theorem d_inv_s {own : Nat} {ini : Bool} {i : Instr} {st : List Value} {h : qH} {t : Nat × List Value × List Value} {rt : Option ClassFile.FieldType} {cc : ByteArray} {pc : Nat} (e : d_inv own i st = some t) : q_mem own ini i st h = none ∧ q_ret rt i st = none ∧ q_throw own cc pc i st = none ∧ q_inv own i st h = some t := by
  unfold d_inv at e
  split at e
  · rename_i idx
    split at e
    · cases e
    · rename_i ho
      refine ⟨?_, rfl, rfl, e⟩
      show (if q_obj own idx = true then _ else none) = none
      rw [if_neg ho]
  · rename_i idx
    split at e
    · rename_i ho
      refine ⟨?_, rfl, rfl, e⟩
      unfold q_mem
      dsimp only
      rw [ho.1]
      dsimp only
      rw [ho.2]
      exact if_neg (by decide)
    · cases e
  · cases e
theorem d_ret_s {own : Nat} {ini : Bool} {rt : Option ClassFile.FieldType} {i : Instr} {st : List Value} {h : qH} (e : d_ret rt i st = true) : q_mem own ini i st h = none ∧ q_ret rt i st = some none := by
  unfold d_ret at e
  split at e
  · split at e
    · exact ⟨rfl, rfl⟩
    · cases e
  · cases e
/-- the pure machine follows -/
theorem d_sim {bg : Nat → Option qE} : ∀ (N d : Nat) (M : qM) (pc : Nat) (env : qL) (st : List Value) (D D' : dH), d_run N d M pc env st D = some D' → q_run N d M pc env st (dI bg D) = some (.inl none, dI bg D') := by
  intro N
  induction N with
  | zero => intro d M pc env st D D' h; cases h
  | succ N ih =>
    intro d M pc env st D D' h
    unfold d_run at h
    unfold q_run
    cases hdc : decode M.2.2.1 pc with
    | error e => rw [hdc] at h; cases h
    | ok x =>
      obtain ⟨i, len⟩ := x
      rw [hdc] at h
      dsimp only at h ⊢
      by_cases hl : q_lok i len = true
      · rw [if_pos hl] at h ⊢
        cases ho : q_op i st with
        | some st' => rw [ho] at h; exact ih _ _ _ _ _ _ _ h
        | none =>
          rw [ho] at h
          dsimp only at h ⊢
          cases hlc : q_loc M.2.2.2.1 i len env st with
          | some x => obtain ⟨env', st'⟩ := x; rw [hlc] at h; exact ih _ _ _ _ _ _ _ h
          | none =>
            rw [hlc] at h
            dsimp only at h ⊢
            cases hj : q_jmp i pc st with
            | some x => obtain ⟨pc', st'⟩ := x; rw [hj] at h; exact ih _ _ _ _ _ _ _ h
            | none =>
              rw [hj] at h
              dsimp only at h ⊢
              cases hm : d_mem M.2.1 (M.1 == 2) i st D with
              | some x =>
                obtain ⟨st', D1⟩ := x
                rw [hm] at h
                rw [d_mem_s hm]
                exact ih _ _ _ _ _ _ _ h
              | none =>
                rw [hm] at h
                dsimp only at h
                by_cases hr : d_ret M.2.2.2.2.1 i st = true
                · rw [if_pos hr] at h
                  cases h
                  obtain ⟨e1, e2⟩ := d_ret_s (own := M.2.1) (ini := M.1 == 2) (h := dI bg D) hr
                  rw [e1]
                  dsimp only
                  rw [e2]
                · rw [if_neg hr] at h
                  cases hi : d_inv M.2.1 i st with
                  | none => rw [hi] at h; cases h
                  | some x =>
                    obtain ⟨e1, e2, e3, e4⟩ := d_inv_s (ini := M.1 == 2) (h := dI bg D) (rt := M.2.2.2.2.1) (cc := M.2.2.1) (pc := pc) hi
                    obtain ⟨k, as, r⟩ := x
                    rw [hi] at h
                    rw [e1]
                    dsimp only at h ⊢
                    rw [e2]
                    dsimp only
                    rw [e3]
                    dsimp only
                    rw [e4]
                    dsimp only
                    cases d with
                    | zero => cases h
                    | succ d =>
                      dsimp only at h ⊢
                      split at h
                      · rename_i hc
                        rw [if_pos hc]
                        cases hq : d_run N d (q_ms k) 0 (lv_args 0 as) [] D with
                        | none => rw [hq] at h; cases h
                        | some D1 =>
                          rw [hq] at h
                          rw [ih _ _ _ _ _ _ _ hq]
                          exact ih _ _ _ _ _ _ _ h
                      · cases h
      · rw [if_neg hl] at h; cases h
