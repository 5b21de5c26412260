/-! THE REFERENCE ALONE: its memory as one function B (bank = number of the field; an array's elements, or at 0 a number), runs as statements about B -/
theorem q_run_le : ∀ (N d : Nat) (M : qM) (pc : Nat) (env : qL) (st : List Value) (h : qH) (r : qO × qH), q_run N d M pc env st h = some r → ∀ (N' d' : Nat), N ≤ N' → d ≤ d' → q_run N' d' M pc env st h = some r := by
  intro N
  induction N with
  | zero => intro d M pc env st h r hr; cases hr
  | succ N ih =>
    intro d M pc env st h r hr N' d' hN hd
    obtain ⟨N', rfl⟩ : ∃ k, N' = k + 1 := ⟨N' - 1, by omega⟩
    have hN : N ≤ N' := by omega
    unfold q_run at hr ⊢
    split at hr
    · cases hr
    · rename_i hdc
      try rw [hdc]
      try dsimp only
      split at hr
      · rename_i hl
        try rw [if_pos hl]
        split at hr
        · rename_i ho
          try rw [ho]
          exact ih _ _ _ _ _ _ _ hr _ _ hN hd
        · rename_i ho
          try rw [ho]
          try dsimp only
          split at hr
          · rename_i ho
            try rw [ho]
            exact ih _ _ _ _ _ _ _ hr _ _ hN hd
          · rename_i ho
            try rw [ho]
            try dsimp only
            split at hr
            · rename_i ho
              try rw [ho]
              exact ih _ _ _ _ _ _ _ hr _ _ hN hd
            · rename_i ho
              try rw [ho]
              try dsimp only
              split at hr
              · rename_i ho
                try rw [ho]
                exact ih _ _ _ _ _ _ _ hr _ _ hN hd
              · rename_i ho
                try rw [ho]
                try dsimp only
                split at hr
                · rename_i ho
                  try rw [ho]
                  exact hr
                · rename_i ho
                  try rw [ho]
                  try dsimp only
                  split at hr
                  · rename_i ho
                    try rw [ho]
                    exact hr
                  · rename_i ho
                    try rw [ho]
                    try dsimp only
                    split at hr
                    · rename_i ho
                      try rw [ho]
                      try dsimp only
                      split at hr
                      · cases hr
                      · rename_i n _
                        obtain ⟨d', rfl⟩ : ∃ k, d' = k + 1 := ⟨d' - 1, by omega⟩
                        try dsimp only
                        split at hr
                        · rename_i hc
                          try rw [if_pos hc]
                          split at hr
                          · rename_i hc
                            rw [ih _ _ _ _ _ _ _ hc N' d' hN (by omega)]
                            exact ih _ _ _ _ _ _ _ hr _ _ hN hd
                          · rename_i hc
                            rw [ih _ _ _ _ _ _ _ hc N' d' hN (by omega)]
                            exact hr
                          · cases hr
                        · cases hr
                    · cases hr
      · cases hr
theorem q_run_step {M : qM} {N d pc pc' : Nat} {env env' : qL} {st st' : List Value} {h h' : qH} {r : qO × qH} (hs : q_step M pc env st h = some (pc', env', st', h')) (hr : q_run N d M pc' env' st' h' = some r) : q_run (N + 1) d M pc env st h = some r := by
  unfold q_step at hs
  unfold q_run
  split at hs
  · cases hs
  · rename_i hdc
    try rw [hdc]
    try dsimp only
    split at hs
    · rename_i hl
      try rw [if_pos hl]
      split at hs
      · rename_i ho
        (try rw [ho]); cases hs; exact hr
      · rename_i ho
        try rw [ho]
        try dsimp only
        split at hs
        · rename_i ho
          (try rw [ho]); cases hs; exact hr
        · rename_i ho
          try rw [ho]
          try dsimp only
          split at hs
          · rename_i ho
            (try rw [ho]); cases hs; exact hr
          · rename_i ho
            try rw [ho]
            try dsimp only
            split at hs
            · rename_i ho
              (try rw [ho]); cases hs; exact hr
            · cases hs
    · cases hs
abbrev qB : Type := Nat → Int → Int
def iv (z : Int) : Value := .int (Int32.ofInt z)
def wv (z : Int) : Value := .long (Int64.ofInt z)
def R32 (z : Int) : Prop := -2147483648 ≤ z ∧ z < 2147483648
def u2 (B : qB) (j : Nat) (x z : Int) : qB := fun b y => if b = j ∧ y = x then z else B b y
theorem u2_bank {B : qB} {j b : Nat} {x y z : Int} (h : b ≠ j) : u2 B j x z b y = B b y := if_neg (fun q => h q.1)
theorem u2_same {B : qB} {j : Nat} {x z : Int} : u2 B j x z j x = z := if_pos ⟨rfl, rfl⟩
theorem u2_idx {B : qB} {j b : Nat} {x y z : Int} (h : y ≠ x) : u2 B j x z b y = B b y := if_neg (fun q => h q.2)
def mAr : List Nat := [1, 4, 5, 6, 7, 8, 9, 10, 11, 12, 13, 15, 17, 18, 19, 20, 21, 22, 23, 24, 25, 27, 31, 36, 37, 38, 39, 40, 42, 43, 44, 45, 49, 50, 51, 52, 53, 54, 60, 61, 62, 63, 65, 67, 70, 73]
def mLn : List Nat := [1200, 1600, 4000, 8, 8, 8, 4, 1001, 1001, 1001, 1001, 1200, 3000, 3000, 3000, 3000, 3000, 3000, 3000, 3000, 3000, 1024, 200, 12, 12, 12, 12, 12, 6000, 6000, 6000, 6000, 20, 20, 800, 2000, 800, 2001, 6000, 6000, 6000, 6000, 2500000, 80000, 20, 1000]
def mt (j : Nat) : Nat := if j = 25 then 3 else if j = 27 ∨ j = 67 then 2 else 1
def mcv (t : Nat) (z : Int) : Value := if t = 2 then wv z else iv z
def mfv (m : Nat) (B : qB) (j : Nat) : Value := if mAr.contains j = true then .ref (m + 1 + mAr.idxOf j) else iv (B j 0)
def hM (m : Nat) (h0 : qH) (B : qB) : qH := (fun i => if i = m then some (.inr (11, (List.range 76).map (mfv m B))) else if m < i then (match mAr[i - m - 1]?, mLn[i - m - 1]? with
  | some j, some n => some (.inl (mt j, n, fun x => mcv (mt j) (B j x)))
  | _, _ => h0.1 i) else h0.1 i, h0.2)
theorem hM_o {m : Nat} {h0 : qH} {B : qB} : (hM m h0 B).1 m = some (.inr (11, (List.range 76).map (mfv m B))) := if_pos rfl
theorem hM_a {m : Nat} {h0 : qH} {B : qB} {i j n : Nat} (hj : mAr[i]? = some j) (hn : mLn[i]? = some n) : (hM m h0 B).1 (m + 1 + i) = some (.inl (mt j, n, fun x => mcv (mt j) (B j x))) := by
  show (if m + 1 + i = m then _ else if m < m + 1 + i then _ else _) = _
  rw [if_neg (by omega), if_pos (by omega), show m + 1 + i - m - 1 = i by omega, hj, hn]
set_option maxRecDepth 100000 in
theorem mAr_inj : ∀ i, i < 46 → ∀ i', i' < 46 → mAr[i]? = mAr[i']? → i = i' := by decide +kernel
theorem hM_putI {m : Nat} {h0 : qH} {B : qB} {j : Nat} {z : Int} (hj : j < 76) (hn : mAr.contains j = false) : qup (hM m h0 B) m (.inr (11, ((List.range 76).map (mfv m B)).set j (iv z))) = hM m h0 (u2 B j 0 z) := by
  have hb : ∀ b, mAr.contains b = true → ∀ y, u2 B j 0 z b y = B b y := fun b hb y => u2_bank (fun q => by rw [q, hn] at hb; cases hb)
  refine Prod.ext (funext fun i => ?_) rfl
  simp only [qup, hM]
  by_cases hi : i = m
  · simp only [hi, if_true]
    congr 3
    refine List.ext_getElem? fun x => ?_
    rw [List.getElem?_set]
    by_cases hx : j = x
    · subst hx
      rw [if_pos rfl, if_pos (by simpa using hj), List.getElem?_map, List.getElem?_range hj]
      show some (iv z) = some (mfv m (u2 B j 0 z) j)
      unfold mfv
      rw [hn, if_neg (by decide), u2_same]
    · rw [if_neg hx, List.getElem?_map, List.getElem?_map]
      by_cases hx2 : x < 76
      · rw [List.getElem?_range hx2]
        show some (mfv m B x) = some (mfv m (u2 B j 0 z) x)
        unfold mfv
        rw [u2_bank (fun q => hx q.symm)]
      · rw [List.getElem?_eq_none (by simp; omega)]
        rfl
  · simp only [hi, if_false]
    split
    · split
      · rename_i h1 h2
        have hc : mAr.contains _ = true := List.contains_iff_mem.mpr (List.mem_of_getElem? h1)
        simp only [hb _ hc]
      · rfl
    · rfl
theorem hM_putA {m : Nat} {h0 : qH} {B : qB} {i j n x : Nat} {z : Int} (hj : mAr[i]? = some j) (hn : mLn[i]? = some n) : qup (hM m h0 B) (m + 1 + i) (.inl (mt j, n, updV (fun x => mcv (mt j) (B j x)) x (mcv (mt j) z))) = hM m h0 (u2 B j x z) := by
  refine Prod.ext (funext fun q => ?_) rfl
  simp only [qup, hM]
  by_cases hq : q = m + 1 + i
  · subst hq
    rw [if_pos rfl, if_neg (by omega), if_pos (by omega), show m + 1 + i - m - 1 = i by omega, hj, hn]
    dsimp only
    congr 4
    funext y
    unfold updV
    by_cases hy : y = x
    · rw [if_pos hy, hy, u2_same]
    · rw [if_neg hy, u2_idx (by omega)]
  · rw [if_neg hq]
    by_cases hm : q = m
    · simp only [hm, if_true]
      congr 3
      refine List.map_congr_left fun b _ => ?_
      unfold mfv
      split
      · rfl
      · rename_i hb
        rw [u2_bank (fun e => hb (by rw [e]; exact List.contains_iff_mem.mpr (List.mem_of_getElem? hj)))]
    · simp only [hm, if_false]
      split
      · split
        · rename_i j' n' h1 h2
          have hne : j' ≠ j := by
            intro e
            subst e
            have hi' := (List.getElem?_eq_some_iff.mp h1).1
            have hi := (List.getElem?_eq_some_iff.mp hj).1
            have := mAr_inj _ hi' _ hi (h1.trans hj.symm)
            omega
          simp only [u2_bank hne]
        · rfl
      · rfl
/-- what is known of the locals -/
def EL (env : qL) (L : List (Option Value)) : Prop := ∀ i v, L[i]? = some (some v) → q_get env i = some v
theorem q_find_filter {j : Nat} {e : Nat × Value} {P : Nat × Value → Bool} (hP : P e = true) : ∀ {env : qL}, env.find? (fun q => q.1 == j) = some e → (env.filter P).find? (fun q => q.1 == j) = some e := by
  intro env
  induction env with
  | nil => intro h; cases h
  | cons a r ih =>
    intro h
    cases ha : (a.1 == j) with
    | true =>
      simp only [List.find?_cons, ha] at h
      cases h
      rw [List.filter_cons_of_pos hP]
      simp only [List.find?_cons, ha]
    | false =>
      simp only [List.find?_cons, ha] at h
      by_cases hp : P a = true
      · rw [List.filter_cons_of_pos hp]
        simp only [List.find?_cons, ha]
        exact ih h
      · rw [List.filter_cons_of_neg hp]
        exact ih h
theorem EL_set {env : qL} {L : List (Option Value)} {i : Nat} {v : Value} (he : EL env L) (hc : ∀ w, L[i - 1]? = some (some w) → w.category = 1) : EL (q_set env i v) (L.set i (some v)) := by
  intro j w hj
  by_cases hij : i = j
  · subst hij
    rw [List.getElem?_set, if_pos rfl] at hj
    split at hj
    · cases hj
      unfold q_get q_set
      simp only [List.find?_cons, beq_self_eq_true]
      rfl
    · cases hj
  · rw [List.getElem?_set, if_neg hij] at hj
    have h1 := he j w hj
    unfold q_get at h1
    obtain ⟨e, h2, h3⟩ := Option.map_eq_some_iff.mp h1
    have hk : e.1 = j := by simpa using List.find?_some h2
    unfold q_get q_set
    simp only [List.find?_cons, beq_eq_false_iff_ne.mpr hij]
    rw [q_find_filter (e := e) ?_ h2]
    · show some e.2 = some w
      rw [h3]
    · rw [hk, h3]
      by_cases ha : j + 1 = i
      · have := hc w (by rw [← ha]; exact hj)
        simp [this, Ne.symm hij]
      · simp [ha, Ne.symm hij]
theorem EL_set2 {env : qL} {L : List (Option Value)} {i : Nat} {v : Value} (he : EL env L) (hc : ∀ w, L[i - 1]? = some (some w) → w.category = 1) : EL (q_set2 env i v) ((L.set i (some v)).set (i + 1) none) := by
  intro j w hj
  by_cases hi1 : i + 1 = j
  · subst hi1
    rw [List.getElem?_set, if_pos rfl] at hj
    split at hj <;> cases hj
  · rw [List.getElem?_set, if_neg hi1] at hj
    by_cases hij : i = j
    · subst hij
      rw [List.getElem?_set, if_pos rfl] at hj
      split at hj
      · cases hj
        unfold q_get q_set2
        simp only [List.find?_cons, beq_self_eq_true]
        rfl
      · cases hj
    · rw [List.getElem?_set, if_neg hij] at hj
      have h1 := he j w hj
      unfold q_get at h1
      obtain ⟨e, h2, h3⟩ := Option.map_eq_some_iff.mp h1
      have hk : e.1 = j := by simpa using List.find?_some h2
      unfold q_get q_set2
      simp only [List.find?_cons, beq_eq_false_iff_ne.mpr hij]
      rw [q_find_filter (e := e) ?_ h2]
      · show some e.2 = some w
        rw [h3]
      · rw [hk, h3]
        by_cases ha : j + 1 = i
        · have := hc w (by rw [← ha]; exact hj)
          simp [this, Ne.symm hij, Ne.symm hi1]
        · simp [ha, Ne.symm hij, Ne.symm hi1]
/-- the first list knows less than the second -/
def lw : List (Option Value) → List (Option Value) → Prop
  | [], _ => True
  | none :: a, b => lw a b.tail
  | some v :: a, b => b.head? = some (some v) ∧ lw a b.tail
theorem lw_at : ∀ {L' L : List (Option Value)}, lw L' L → ∀ (i : Nat) (v : Value), L'[i]? = some (some v) → L[i]? = some (some v)
  | [], _, _, i, v, h => by simp at h
  | none :: a, b, hl, 0, v, h => by simp at h
  | none :: a, b, hl, i + 1, v, h => by
    have := lw_at (L' := a) (L := b.tail) hl i v (by simpa using h)
    rw [List.getElem?_tail] at this
    exact this
  | some w :: a, b, hl, 0, v, h => by
    have := hl.1
    rw [List.head?_eq_getElem?] at this
    rw [this]
    simpa using h
  | some w :: a, b, hl, i + 1, v, h => by
    have := lw_at (L' := a) (L := b.tail) hl.2 i v (by simpa using h)
    rw [List.getElem?_tail] at this
    exact this
theorem EL_args : ∀ (as : List Value) (b n : Nat), (∀ v ∈ as, v.category = 1) → ∀ i v, ((as.map some) ++ List.replicate n none)[i]? = some (some v) → q_get (lv_args b as) (b + i) = some v := by
  intro as
  induction as with
  | nil =>
    intro b n _ i v h
    simp [List.getElem?_replicate] at h
  | cons a r ih =>
    intro b n hc i v h
    have ha : a.category = 1 := hc a (List.mem_cons_self ..)
    show q_get ((b, a) :: lv_args (if a.category = 2 then b + 2 else b + 1) r) (b + i) = some v
    rw [if_neg (by omega)]
    cases i with
    | zero =>
      simp at h
      unfold q_get
      simp only [List.find?_cons, Nat.add_zero, beq_self_eq_true, h]
      rfl
    | succ i =>
      have := ih (b + 1) n (fun v hv => hc v (List.mem_cons_of_mem _ hv)) i v (by simpa using h)
      unfold q_get at this ⊢
      have hne : (b == b + (i + 1)) = false := beq_eq_false_iff_ne.mpr (by omega)
      simp only [List.find?_cons, hne]
      rw [show b + (i + 1) = b + 1 + i by omega]
      exact this
def catOK : Option (Option Value) → Prop
  | some (some w) => w.category = 1
  | _ => True
/-- method k at pc, locals L, stack st, memory B, comes to an end for which Q holds -/
def qZ (m : Nat) (h0 : qH) (d k pc : Nat) (L : List (Option Value)) (st : List Value) (B : qB) (Q : qO → qB → Prop) : Prop := ∃ (N : Nat) (o : qO) (B' : qB), (∀ env, EL env L → q_run N d (q_ms k) pc env st (hM m h0 B) = some (o, hM m h0 B')) ∧ Q o B'
def q_ck (k : Nat) (T : List (Nat × Instr × Nat)) : Bool := T.all (fun e => decide (decode (q_ms k).2.2.1 e.1 = .ok (e.2.1, e.2.2)))
theorem ck_at {k : Nat} {T : List (Nat × Instr × Nat)} (h : q_ck k T = true) (n : Nat) {pc len : Nat} {i : Instr} (e : T[n]? = some (pc, i, len)) : decode (q_ms k).2.2.1 pc = .ok (i, len) := by
  unfold q_ck at h
  have h1 := List.all_eq_true.mp h _ (List.mem_of_getElem? e)
  simp only [decide_eq_true_eq] at h1
  exact h1
section QZ
variable {m : Nat} {h0 : qH} {d k pc : Nat} {L : List (Option Value)} {st : List Value} {B : qB} {Q : qO → qB → Prop} {i : Instr} {len : Nat}
theorem qZ.mono {d' : Nat} {Q' : qO → qB → Prop} (h : qZ m h0 d k pc L st B Q) (hd : d ≤ d') (hq : ∀ o B', Q o B' → Q' o B') : qZ m h0 d' k pc L st B Q' := by
  obtain ⟨N, o, B', h1, h2⟩ := h
  exact ⟨N, o, B', fun env he => q_run_le _ _ _ _ _ _ _ _ (h1 env he) _ _ (Nat.le_refl _) hd, hq _ _ h2⟩
theorem z_weak {L' : List (Option Value)} (hl : lw L' L) (w : qZ m h0 d k pc L' st B Q) : qZ m h0 d k pc L st B Q := by
  obtain ⟨N, o, B', h1, h2⟩ := w
  exact ⟨N, o, B', fun env he => h1 env (fun i v h => he i v (lw_at hl i v h)), h2⟩
theorem z_go {pc' : Nat} {L' : List (Option Value)} {st' : List Value} {B' : qB} (hs : ∀ env, EL env L → ∃ env', q_step (q_ms k) pc env st (hM m h0 B) = some (pc', env', st', hM m h0 B') ∧ EL env' L') (w : qZ m h0 d k pc' L' st' B' Q) : qZ m h0 d k pc L st B Q := by
  obtain ⟨N, o, B2, hr, hq⟩ := w
  refine ⟨N + 1, o, B2, fun env he => ?_, hq⟩
  obtain ⟨env', h1, h2⟩ := hs env he
  exact q_run_step h1 (hr env' h2)
theorem z_op {st' : List Value} (hd : decode (q_ms k).2.2.1 pc = .ok (i, len)) (hl : q_lok i len = true) (ho : q_op i st = some st') (w : qZ m h0 d k (pc + len) L st' B Q) : qZ m h0 d k pc L st B Q := by
  refine z_go (fun env he => ⟨env, ?_, he⟩) w
  unfold q_step
  rw [hd]
  dsimp only
  rw [if_pos hl, ho]
theorem z_loc {L' : List (Option Value)} {st' : List Value} (hd : decode (q_ms k).2.2.1 pc = .ok (i, len)) (hl : q_lok i len = true) (ho : q_op i st = none) (hs : ∀ env, EL env L → ∃ env', q_loc (q_ms k).2.2.2.1 i len env st = some (env', st') ∧ EL env' L') (w : qZ m h0 d k (pc + len) L' st' B Q) : qZ m h0 d k pc L st B Q := by
  refine z_go (fun env he => ?_) w
  obtain ⟨env', h1, h2⟩ := hs env he
  refine ⟨env', ?_, h2⟩
  unfold q_step
  rw [hd]
  dsimp only
  rw [if_pos hl, ho]
  dsimp only
  rw [h1]
theorem z_ldk {ok : Value → Bool} {n : Nat} {v : Value} (hd : decode (q_ms k).2.2.1 pc = .ok (i, len)) (hl : q_lok i len = true) (ho : q_op i st = none) (hi : ∀ env, q_loc (q_ms k).2.2.2.1 i len env st = q_ldk ok env n st) (hv : L[n]? = some (some v)) (hk : ok v = true) (w : qZ m h0 d k (pc + len) L (v :: st) B Q) : qZ m h0 d k pc L st B Q :=
  z_loc hd hl ho (fun env he => ⟨env, by rw [hi]; unfold q_ldk; rw [he n v hv]; dsimp only; rw [if_pos hk], he⟩) w
theorem cat_ok {o : Option (Option Value)} (h : catOK o) : ∀ w, o = some (some w) → w.category = 1 := by
  intro w e
  rw [e] at h
  exact h
theorem z_st1 {L' : List (Option Value)} {ok : Value → Bool} {n nL : Nat} {v : Value} (hd : decode (q_ms k).2.2.1 pc = .ok (i, len)) (hl : q_lok i len = true) (ho : ∀ s, q_op i s = none) (hi : ∀ env s, q_loc (q_ms k).2.2.2.1 i len env s = q_st1 ok (q_ms k).2.2.2.1 env n s) (hk : ok v = true) (hnL : (q_ms k).2.2.2.1 = nL) (hn : n < nL) (hc : catOK L[n - 1]?) (hL : L.set n (some v) = L') (w : qZ m h0 d k (pc + len) L' st B Q) : qZ m h0 d k pc L (v :: st) B Q :=
  z_loc hd hl (ho _) (fun env he => ⟨q_set env n v, by rw [hi]; unfold q_st1; dsimp only; rw [if_pos ⟨hk, by rw [hnL]; exact hn⟩], by rw [← hL]; exact EL_set he (cat_ok hc)⟩) w
theorem z_st2 {L' : List (Option Value)} {n nL : Nat} {v : Value} (hd : decode (q_ms k).2.2.1 pc = .ok (i, len)) (hl : q_lok i len = true) (ho : ∀ s, q_op i s = none) (hi : ∀ env s, q_loc (q_ms k).2.2.2.1 i len env s = q_st2 (q_ms k).2.2.2.1 env n s) (hk : q_isL v = true) (hnL : (q_ms k).2.2.2.1 = nL) (hn : n + 1 < nL) (hc : catOK L[n - 1]?) (hL : (L.set n (some v)).set (n + 1) none = L') (w : qZ m h0 d k (pc + len) L' st B Q) : qZ m h0 d k pc L (v :: st) B Q :=
  z_loc hd hl (ho _) (fun env he => ⟨q_set2 env n v, by rw [hi]; unfold q_st2; dsimp only; rw [if_pos ⟨hk, by rw [hnL]; exact hn⟩], by rw [← hL]; exact EL_set2 he (cat_ok hc)⟩) w
theorem z_iinc {L' : List (Option Value)} {n nL : Nat} {c z : Int} (hd : decode (q_ms k).2.2.1 pc = .ok (.iinc n c, 3)) (hv : L[n]? = some (some (iv z))) (hnL : (q_ms k).2.2.2.1 = nL) (hn : n < nL) (hc : catOK L[n - 1]?) (hL : L.set n (some (iv (z + c))) = L') (w : qZ m h0 d k (pc + 3) L' st B Q) : qZ m h0 d k pc L st B Q := by
  refine z_loc hd rfl rfl (fun env he => ⟨q_set env n (iv (z + c)), ?_, by rw [← hL]; exact EL_set he (cat_ok hc)⟩) w
  show (match q_get env n with | some (.int x) => if n < (q_ms k).2.2.2.1 ∧ 3 = 3 then some (q_set env n (.int (x + Int32.ofInt c)), st) else none | _ => none) = _
  rw [he n _ hv]
  show (if n < (q_ms k).2.2.2.1 ∧ 3 = 3 then some (q_set env n (.int (Int32.ofInt z + Int32.ofInt c)), st) else none) = _
  rw [if_pos ⟨by rw [hnL]; exact hn, rfl⟩]
  unfold iv
  rw [Int32.ofInt_add]
theorem z_jmp {pc' : Nat} {st' : List Value} (hd : decode (q_ms k).2.2.1 pc = .ok (i, len)) (hl : q_lok i len = true) (ho : q_op i st = none) (ho2 : ∀ env, q_loc (q_ms k).2.2.2.1 i len env st = none) (hj : q_jmp i pc st = some (pc', st')) (w : qZ m h0 d k pc' L st' B Q) : qZ m h0 d k pc L st B Q := by
  refine z_go (fun env he => ⟨env, ?_, he⟩) w
  unfold q_step
  rw [hd]
  dsimp only
  rw [if_pos hl, ho]
  dsimp only
  rw [ho2]
  dsimp only
  rw [hj]
theorem z_mem {st' : List Value} {B' : qB} (hd : decode (q_ms k).2.2.1 pc = .ok (i, len)) (hl : q_lok i len = true) (ho : q_op i st = none) (ho2 : ∀ env, q_loc (q_ms k).2.2.2.1 i len env st = none) (hj : q_jmp i pc st = none) (hm : q_mem (q_ms k).2.1 ((q_ms k).1 == 2) i st (hM m h0 B) = some (st', hM m h0 B')) (w : qZ m h0 d k (pc + len) L st' B' Q) : qZ m h0 d k pc L st B Q := by
  refine z_go (fun env he => ⟨env, ?_, he⟩) w
  unfold q_step
  rw [hd]
  dsimp only
  rw [if_pos hl, ho]
  dsimp only
  rw [ho2]
  dsimp only
  rw [hj]
  dsimp only
  rw [hm]
end QZ
