/-- the array classes by their numbers -/
abbrev htys (dA : Nat → ClassId) : List (ClassId × FieldType) := [(dA 0, .byte), (dA 1, .int), (dA 2, .long), (dA 3, .boolean), (dA 4, .object RX1), (dA 5, .object RX5)]
def q_idx (i : Int32) (n : Nat) : Bool := !decide (i < 0) && decide (i.toNatClampNeg < n)
theorem q_idx_in {i : Int32} {n : Nat} (h : q_idx i n = true) : ¬ i < 0 ∧ i.toNatClampNeg < n := by
  unfold q_idx at h
  simpa using h
section QAR
variable {p : Program} {l : Launch} {e : Env} {R : Room} {s : State} {m : MethodId} {args : Array Value} {below : List Frame} {meth : Method} {c : Code} {H : Heap} {locs : List Loc} {cells slots : Nat} {Q : State → Prop}
variable {cc : ByteArray} {pc : Nat} {ls : Array Slot} {D : va_G} {dA : Nat → ClassId} {sC : qS} {H0 : Heap} {rest : List Value} {h : qH} {a n t : Nat} {f : Nat → Value} {i : Int32}
theorem q_sz {i : Int32} {n : Nat} {cA : ClassId} {F : Nat → Value} (h : q_idx i n = true) : ¬ (i < 0 ∨ (arrV cA n F).slots.size ≤ i.toNatClampNeg) := by
  obtain ⟨h1, h2⟩ := q_idx_in h
  rw [arrV_size]
  rintro (q | q)
  · exact h1 q
  · omega
theorem q_rd {i : Int32} {n : Nat} {cA : ClassId} {F : Nat → Value} (h : q_idx i n = true) : (arrV cA n F).slots[i.toNatClampNeg]? = some (F i.toNatClampNeg) := arrV_read _ _ (q_idx_in h).2
/-- a special number's array -/
theorem qW.sx (w : qW D dA sC H0 h H) (hX : q_SX sC H0 s) (ha : h.1 a = some (.inl (t, n, f))) (hlt : ¬ a < 1000000000) : ∃ xs : Nat → Int32, (t = 1 ∧ f = fun j => .int (xs j)) ∧ va_X (qad H0.size sC a) n xs s H := by
  have h1 := (w.2.2.2 a _ ha).2 hlt
  have mv : ∀ (b L : Nat) (xs : Nat → Int32), b < H0.size → va_X b L xs s H0 → va_X b L xs s H := fun b L xs hb ⟨scr, g1, g2⟩ => ⟨scr, by rw [w.2.2.1 b hb]; exact g1, g2⟩
  unfold q_spe at h1
  split at h1
  · rename_i q
    cases h1
    refine ⟨q_CLS, ⟨rfl, rfl⟩, ?_⟩
    have e1 : qad H0.size sC a = sC.1.1 := by unfold qad; rw [if_pos q]
    rw [e1]
    exact mv _ _ _ w.1.1 hX.1
  · split at h1
    · rename_i q0 q
      cases h1
      refine ⟨sC.2.2, ⟨rfl, rfl⟩, ?_⟩
      have e1 : qad H0.size sC a = sC.1.2 := by unfold qad; rw [if_neg q0, if_pos q]
      rw [e1]
      exact mv _ _ _ w.1.2 hX.2
    · cases h1
theorem q_iald_W (hx : p.tables.exec = Jvm.exec) (hb : c.code = cc) (hK : va_K D hcl (htys dA) s) (hX : q_SX sC H0 s) (w : qW D dA sC H0 h H) (ha : h.1 a = some (.inl (1, n, f))) (hi : q_idx i n = true) (hd : decode cc pc = .ok (.iaload, 1))
    (kk : W p l e R s m args below meth c H locs cells slots Q (F0 m (pc + 1) ls (qv (qad H0.size sC) (f i.toNatClampNeg) :: rest))) : W p l e R s m args below meth c H locs cells slots Q (F0 m pc ls (.int i :: .ref (qad H0.size sC a) :: rest)) := by
  by_cases hlt : a < 1000000000
  · exact W.iald hx hb (w.ar ha hlt) ((hK.2 1 _ rfl).1 n _) (fun q => by cases q) (q_sz hi) (q_rd hi) rfl rfl hd kk
  · obtain ⟨xs, ⟨-, rfl⟩, scr, h1, h2, h3, h4, h5⟩ := w.sx hX ha hlt
    obtain ⟨i1, i2⟩ := q_idx_in hi
    have hin : ¬ (i < 0 ∨ scr.slots.size ≤ i.toNatClampNeg) := by
      rw [h4]
      rintro (q | q)
      · exact i1 q
      · omega
    exact W.iald (v := .int (xs i.toNatClampNeg)) hx hb h1 h2 h3 hin (h5 _ i2) rfl rfl hd kk
theorem q_lald_W (hx : p.tables.exec = Jvm.exec) (hb : c.code = cc) (hK : va_K D hcl (htys dA) s) (w : qW D dA sC H0 h H) (ha : h.1 a = some (.inl (2, n, f))) (hi : q_idx i n = true) (hd : decode cc pc = .ok (.laload, 1))
    (kk : W p l e R s m args below meth c H locs cells slots Q (F0 m (pc + 1) ls (qv (qad H0.size sC) (f i.toNatClampNeg) :: rest))) : W p l e R s m args below meth c H locs cells slots Q (F0 m pc ls (.int i :: .ref (qad H0.size sC a) :: rest)) :=
  W.lald hx hb (w.ar ha (w.ty ha (by decide))) ((hK.2 2 _ rfl).1 n _) (fun q => by cases q) (q_sz hi) (q_rd hi) rfl rfl hd kk
theorem q_bald_W (hx : p.tables.exec = Jvm.exec) (hb : c.code = cc) (hK : va_K D hcl (htys dA) s) (w : qW D dA sC H0 h H) (ha : h.1 a = some (.inl (0, n, f))) (hi : q_idx i n = true) (hd : decode cc pc = .ok (.baload, 1))
    (kk : W p l e R s m args below meth c H locs cells slots Q (F0 m (pc + 1) ls (qv (qad H0.size sC) (f i.toNatClampNeg) :: rest))) : W p l e R s m args below meth c H locs cells slots Q (F0 m pc ls (.int i :: .ref (qad H0.size sC a) :: rest)) :=
  W.bald hx hb (w.ar ha (w.ty ha (by decide))) ((hK.2 0 _ rfl).1 n _) (fun q => by cases q) (q_sz hi) (q_rd hi) rfl rfl hd kk
theorem q_zald_W (hx : p.tables.exec = Jvm.exec) (hb : c.code = cc) (hK : va_K D hcl (htys dA) s) (w : qW D dA sC H0 h H) (ha : h.1 a = some (.inl (3, n, f))) (hi : q_idx i n = true) (hd : decode cc pc = .ok (.baload, 1))
    (kk : W p l e R s m args below meth c H locs cells slots Q (F0 m (pc + 1) ls (qv (qad H0.size sC) (f i.toNatClampNeg) :: rest))) : W p l e R s m args below meth c H locs cells slots Q (F0 m pc ls (.int i :: .ref (qad H0.size sC a) :: rest)) :=
  W.zald hx hb (w.ar ha (w.ty ha (by decide))) ((hK.2 3 _ rfl).1 n _) (fun q => by cases q) (q_sz hi) (q_rd hi) rfl rfl hd kk
theorem q_aald_W (hx : p.tables.exec = Jvm.exec) (hb : c.code = cc) (hK : va_K D hcl (htys dA) s) (w : qW D dA sC H0 h H) (ha : h.1 a = some (.inl (t, n, f))) (ht : t = 4 ∨ t = 5) (hi : q_idx i n = true) (hd : decode cc pc = .ok (.aaload, 1))
    (kk : W p l e R s m args below meth c H locs cells slots Q (F0 m (pc + 1) ls (qv (qad H0.size sC) (f i.toNatClampNeg) :: rest))) : W p l e R s m args below meth c H locs cells slots Q (F0 m pc ls (.int i :: .ref (qad H0.size sC a) :: rest)) := by
  rcases ht with rfl | rfl
  · exact W.aald hx hb (w.ar ha (w.ty ha (by decide))) ((hK.2 4 _ rfl).1 n _) rfl (fun q => by cases q) (q_sz hi) (q_rd hi) rfl rfl hd kk
  · exact W.aald hx hb (w.ar ha (w.ty ha (by decide))) ((hK.2 5 _ rfl).1 n _) rfl (fun q => by cases q) (q_sz hi) (q_rd hi) rfl rfl hd kk
theorem q_alen_W (hx : p.tables.exec = Jvm.exec) (hb : c.code = cc) (hK : va_K D hcl (htys dA) s) (hX : q_SX sC H0 s) (w : qW D dA sC H0 h H) (ha : h.1 a = some (.inl (t, n, f))) (ht : t < 6) (hd : decode cc pc = .ok (.arraylength, 1))
    (kk : W p l e R s m args below meth c H locs cells slots Q (F0 m (pc + 1) ls (.int (nI n) :: rest))) : W p l e R s m args below meth c H locs cells slots Q (F0 m pc ls (.ref (qad H0.size sC a) :: rest)) := by
  have key : ∃ ty, s.isArrayOf (arrV (dA t) n (fun j => qv (qad H0.size sC) (f j))) ty := by
    match t, ht with
    | 0, _ => exact ⟨_, (hK.2 0 _ rfl).1 n _⟩
    | 1, _ => exact ⟨_, (hK.2 1 _ rfl).1 n _⟩
    | 2, _ => exact ⟨_, (hK.2 2 _ rfl).1 n _⟩
    | 3, _ => exact ⟨_, (hK.2 3 _ rfl).1 n _⟩
    | 4, _ => exact ⟨_, (hK.2 4 _ rfl).1 n _⟩
    | 5, _ => exact ⟨_, (hK.2 5 _ rfl).1 n _⟩
    | k + 6, ht => exact absurd ht (by omega)
  obtain ⟨ty, hty⟩ := key
  by_cases hlt : a < 1000000000
  case neg =>
    obtain ⟨xs, -, scr, h1, h2, h3, h4, h5⟩ := w.sx hX ha hlt
    exact W.alen (n := nI n) hx hb h1 h2 (by rw [h4]; rfl) rfl rfl hd kk
  exact W.alen hx hb (w.ar ha hlt) hty (by show (arrV _ _ _).slots.size.toInt32 = _; rw [arrV_size]; rfl) rfl rfl hd kk
/-- behind a store -/
theorem q_stored (w : qW D dA sC H0 h H) (ha : h.1 a = some (.inl (t, n, f))) (hne : a < 1000000000) (hlo : ∀ z ∈ locs, H0.size ≤ z.base) {j : Nat} {v : Value}
    (kk : ∀ (H1 : Heap) (locs1 : List Loc), qW D dA sC H0 (qup h a (.inl (t, n, updV f j v))) H1 → (∀ z ∈ locs1, H0.size ≤ z.base) → W p l e R s m args below meth c H1 locs1 cells slots Q (F0 m (pc + 1) ls rest)) :
    ∀ H' : Heap, H'[qad H0.size sC a]? = some ((arrV (dA t) n (fun j => qv (qad H0.size sC) (f j))).setSlot j (qv (qad H0.size sC) v)) → H'.size = H.size → (∀ q, q ≠ qad H0.size sC a → H'[q]? = H[q]?) →
      W p l e R s m args below meth c H' (locs ++ [⟨qad H0.size sC a, j⟩]) cells slots Q (F0 m (pc + 1) ls rest) := by
  intro H' e1 e2 e3
  refine kk H' _ (w.set hne e2 e3 ?_) ?_
  · show H'[qad H0.size sC a]? = some (arrV (dA t) n (fun i => qv (qad H0.size sC) (updV f j v i)))
    rw [e1, arrV_store]
    congr 2
    funext i
    unfold updV
    split <;> rfl
  · intro z hz
    rcases List.mem_append.mp hz with q | q
    · exact hlo z q
    · rw [List.mem_singleton.mp q]
      show H0.size ≤ qad H0.size sC a
      rw [qad_lt hne]; omega
theorem q_iast_W (hx : p.tables.exec = Jvm.exec) (hb : c.code = cc) (hK : va_K D hcl (htys dA) s) (w : qW D dA sC H0 h H) (ha : h.1 a = some (.inl (1, n, f))) (hne : a < 1000000000) (hi : q_idx i n = true) (hlo : ∀ z ∈ locs, H0.size ≤ z.base) {x : Int32} (hd : decode cc pc = .ok (.iastore, 1))
    (kk : ∀ (H1 : Heap) (locs1 : List Loc), qW D dA sC H0 (qup h a (.inl (1, n, updV f i.toNatClampNeg (.int x)))) H1 → (∀ z ∈ locs1, H0.size ≤ z.base) → W p l e R s m args below meth c H1 locs1 cells slots Q (F0 m (pc + 1) ls rest)) :
    W p l e R s m args below meth c H locs cells slots Q (F0 m pc ls (.int x :: .int i :: .ref (qad H0.size sC a) :: rest)) :=
  W.iast hx hb (w.ar ha hne) ((hK.2 1 _ rfl).1 n _) (fun q => by cases q) (q_sz hi) rfl rfl hd (q_stored (v := .int x) w ha hne hlo kk)
theorem q_last_W (hx : p.tables.exec = Jvm.exec) (hb : c.code = cc) (hK : va_K D hcl (htys dA) s) (w : qW D dA sC H0 h H) (ha : h.1 a = some (.inl (2, n, f))) (hne : a < 1000000000) (hi : q_idx i n = true) (hlo : ∀ z ∈ locs, H0.size ≤ z.base) {x : Int64} (hd : decode cc pc = .ok (.lastore, 1))
    (kk : ∀ (H1 : Heap) (locs1 : List Loc), qW D dA sC H0 (qup h a (.inl (2, n, updV f i.toNatClampNeg (.long x)))) H1 → (∀ z ∈ locs1, H0.size ≤ z.base) → W p l e R s m args below meth c H1 locs1 cells slots Q (F0 m (pc + 1) ls rest)) :
    W p l e R s m args below meth c H locs cells slots Q (F0 m pc ls (.long x :: .int i :: .ref (qad H0.size sC a) :: rest)) :=
  W.last hx hb (w.ar ha hne) ((hK.2 2 _ rfl).1 n _) (fun q => by cases q) (q_sz hi) rfl rfl hd (q_stored (v := .long x) w ha hne hlo kk)
theorem q_bast_W (hx : p.tables.exec = Jvm.exec) (hb : c.code = cc) (hK : va_K D hcl (htys dA) s) (w : qW D dA sC H0 h H) (ha : h.1 a = some (.inl (0, n, f))) (hne : a < 1000000000) (hi : q_idx i n = true) (hlo : ∀ z ∈ locs, H0.size ≤ z.base) {x : Int32} (hd : decode cc pc = .ok (.bastore, 1))
    (kk : ∀ (H1 : Heap) (locs1 : List Loc), qW D dA sC H0 (qup h a (.inl (0, n, updV f i.toNatClampNeg (narrow .byte (.int x))))) H1 → (∀ z ∈ locs1, H0.size ≤ z.base) → W p l e R s m args below meth c H1 locs1 cells slots Q (F0 m (pc + 1) ls rest)) :
    W p l e R s m args below meth c H locs cells slots Q (F0 m pc ls (.int x :: .int i :: .ref (qad H0.size sC a) :: rest)) :=
  W.bast hx hb (w.ar ha hne) ((hK.2 0 _ rfl).1 n _) (fun q => by cases q) (q_sz hi) rfl rfl hd (q_stored (v := narrow .byte (.int x)) w ha hne hlo kk)
theorem q_zast_W (hx : p.tables.exec = Jvm.exec) (hb : c.code = cc) (hK : va_K D hcl (htys dA) s) (w : qW D dA sC H0 h H) (ha : h.1 a = some (.inl (3, n, f))) (hne : a < 1000000000) (hi : q_idx i n = true) (hlo : ∀ z ∈ locs, H0.size ≤ z.base) {x : Int32} (hd : decode cc pc = .ok (.bastore, 1))
    (kk : ∀ (H1 : Heap) (locs1 : List Loc), qW D dA sC H0 (qup h a (.inl (3, n, updV f i.toNatClampNeg (narrow .boolean (.int x))))) H1 → (∀ z ∈ locs1, H0.size ≤ z.base) → W p l e R s m args below meth c H1 locs1 cells slots Q (F0 m (pc + 1) ls rest)) :
    W p l e R s m args below meth c H locs cells slots Q (F0 m pc ls (.int x :: .int i :: .ref (qad H0.size sC a) :: rest)) :=
  W.zast hx hb (w.ar ha hne) ((hK.2 3 _ rfl).1 n _) (fun q => by cases q) (q_sz hi) rfl rfl hd (q_stored (v := narrow .boolean (.int x)) w ha hne hlo kk)
theorem q_aast_W (hx : p.tables.exec = Jvm.exec) (hb : c.code = cc) (hK : va_K D hcl (htys dA) s) (w : qW D dA sC H0 h H) {k b : Nat} {vs : List Value} (ha : h.1 a = some (.inl (t, n, f))) (hv : h.1 b = some (.inr (k, vs))) (htk : (t = 4 ∧ k = 1) ∨ (t = 5 ∧ k = 5)) (hne : a < 1000000000) (hi : q_idx i n = true) (hlo : ∀ z ∈ locs, H0.size ≤ z.base) (hd : decode cc pc = .ok (.aastore, 1))
    (kk : ∀ (H1 : Heap) (locs1 : List Loc), qW D dA sC H0 (qup h a (.inl (t, n, updV f i.toNatClampNeg (.ref b)))) H1 → (∀ z ∈ locs1, H0.size ≤ z.base) → W p l e R s m args below meth c H1 locs1 cells slots Q (F0 m (pc + 1) ls rest)) :
    W p l e R s m args below meth c H locs cells slots Q (F0 m pc ls (.ref (qad H0.size sC b) :: .int i :: .ref (qad H0.size sC a) :: rest)) := by
  have hkk : k < 12 := by rcases htk with ⟨-, rfl⟩ | ⟨-, rfl⟩ <;> decide
  have htt : va_RA s (dA t) (.object (qC k)) := by
    rcases htk with ⟨rfl, rfl⟩ | ⟨rfl, rfl⟩
    · exact (hK.2 4 _ rfl).2
    · exact (hK.2 5 _ rfl).2
  obtain ⟨r, h1, cell, q1, q2, q3, q4⟩ := w.ob hv
  have hcls := (hK.1 k _ (q_cl k hkk)).2
  obtain ⟨kA, comp, k1, k2, k3, -⟩ := htt
  have hcomp : comp = D.1 k := Option.some.inj (k3.symm.trans hcls.1)
  subst hcomp
  obtain ⟨kC, hkC, -⟩ := hcls.2
  obtain ⟨i1, i2⟩ := q_idx_in hi
  exact W.aast hx hb (w.ar ha hne) (fun q h => by cases h) (fun h => by cases h) k1 k2 rfl hkC ⟨i1, by show _ < (arrV _ _ _).slots.size; rw [arrV_size]; exact i2⟩ q1 (fun q h => by rw [q3] at h; cases h) (by rw [q2]; exact hkC) (by rw [q2]; exact va_assign hcls) rfl rfl hd (q_stored (v := .ref b) w ha hne hlo kk)
/-- behind a new cell -/
theorem q_new_W (hx : p.tables.exec = Jvm.exec) (hb : c.code = cc) (hG : ∀ w ∈ GW, w.before args s = true) {own : Nat} (hown : s.vm.findClass (oN own) = some m.cls) (hK : va_K D hcl (htys dA) s) (w : qW D dA sC H0 h H) (hn : h.2.1 < 1000000000) {idx k : Nat} (hk : k < 12)
    (h1 : Cond.classLink (oN own) idx (qC k) ∈ GW) (h2 : Cond.instantiable (qC k) (qN k) ∈ GW) (h3 : Cond.initialized (qC k) ∈ GW) (hc : cells + 1 ≤ R.cells) (hs : slots + qN k ≤ R.slots) (hd : decode cc pc = .ok (.new idx, 3))
    (kk : ∀ (H1 : Heap), qW D dA sC H0 (qnew h (.inr (k, (List.range (qN k)).map (fun j => defaultValue (qTy k j)))) (qN k)) H1 → W p l e R s m args below meth c H1 locs (cells + 1) (slots + qN k) Q (F0 m (pc + 3) ls (.ref (qad H0.size sC h.2.1) :: rest))) :
    W p l e R s m args below meth c H locs cells slots Q (F0 m pc ls rest) := by
  have hKn := hK.1 k _ (q_cl k hk)
  refine W.newcK hx hb hown (hG _ h1) (hG _ h2) (hG _ h3) rfl hd hc hs hKn.2.1 rfl fun H1 kC hkC e1 z1 o1 => ?_
  have htop := w.top hn
  have hdf : ∀ ty : FieldType, qv (qad H0.size sC) (defaultValue ty) = defaultValue ty := fun ty => by cases ty <;> rfl
  rw [← htop] at e1 ⊢
  refine kk H1 (w.new hn z1 o1 ⟨_, q_cl k hk, (u_born (qTy k) hG (q_in k hk) hKn hkC e1 (q_ty k hk)).to (fun j hj => ?_)⟩)
  show defaultValue (qTy k j) = vp_V (List.map (qv (qad H0.size sC)) ((List.range (qN k)).map (fun j => defaultValue (qTy k j)))) j
  have hj' : j < (List.range (qN k)).length := by rw [List.length_range]; exact hj
  unfold vp_V
  rw [List.map_map, List.getD_eq_getElem?_getD, List.getElem?_map, List.getElem?_range hj]
  simp [hdf]
theorem q_newa_W (hx : p.tables.exec = Jvm.exec) (hb : c.code = cc) (hK : va_K D hcl (htys dA) s) (w : qW D dA sC H0 h H) (hn : h.2.1 < 1000000000) {at_ : ArrayType} {t : Nat} (ht : (at_ = .byte ∧ t = 0) ∨ (at_ = .int ∧ t = 1) ∨ (at_ = .long ∧ t = 2) ∨ (at_ = .boolean ∧ t = 3)) (harr : (Cond.arrayClass (newarray.typeOf at_)).before args s = true)
    {N : Nat} (h0 : ¬ i < 0) (hN : i.toNatClampNeg = N) (hle : N ≤ 67108864) (hc : cells + 1 ≤ R.cells) (hs : slots + N ≤ R.slots) (hd : decode cc pc = .ok (.newarray at_, 2))
    (kk : ∀ (H1 : Heap), qW D dA sC H0 (qnew h (.inl (t, N, fun _ => defaultValue (newarray.typeOf at_))) N) H1 → W p l e R s m args below meth c H1 locs (cells + 1) (slots + N) Q (F0 m (pc + 2) ls (.ref (qad H0.size sC h.2.1) :: rest))) :
    W p l e R s m args below meth c H locs cells slots Q (F0 m pc ls (.int i :: rest)) := by
  have hby : N * componentBytes (newarray.typeOf at_) ≤ 536870912 := by
    rcases ht with ⟨rfl, -⟩ | ⟨rfl, -⟩ | ⟨rfl, -⟩ | ⟨rfl, -⟩ <;> simp only [newarray.typeOf, componentBytes] <;> omega
  refine va_newaK hx hb harr rfl hd rfl h0 hN hby hc hs rfl fun H1 cA e1 z1 o1 hAr hNm => ?_
  have htop := w.top hn
  have hcA : cA = dA t := by
    rcases ht with ⟨rfl, rfl⟩ | ⟨rfl, rfl⟩ | ⟨rfl, rfl⟩ | ⟨rfl, rfl⟩
    · exact Option.some.inj (hNm.symm.trans (hK.2 0 _ rfl).2)
    · exact Option.some.inj (hNm.symm.trans (hK.2 1 _ rfl).2)
    · exact Option.some.inj (hNm.symm.trans (hK.2 2 _ rfl).2)
    · exact Option.some.inj (hNm.symm.trans (hK.2 3 _ rfl).2)
  have hdf : qv (qad H0.size sC) (defaultValue (newarray.typeOf at_)) = defaultValue (newarray.typeOf at_) := by cases at_ <;> rfl
  rw [← htop] at e1 ⊢
  refine kk H1 (w.new hn z1 o1 ?_)
  show H1[qad H0.size sC h.2.1]? = some (arrV (dA t) N (fun _ => qv (qad H0.size sC) (defaultValue (newarray.typeOf at_))))
  rw [e1, hcA, hdf]
theorem q_anew_W (hx : p.tables.exec = Jvm.exec) (hb : c.code = cc) (hG : ∀ w ∈ GW, w.before args s = true) {own : Nat} (hown : s.vm.findClass (oN own) = some m.cls) (hK : va_K D hcl (htys dA) s) (w : qW D dA sC H0 h H) (hn : h.2.1 < 1000000000) {idx t k : Nat} (htk : (t = 4 ∧ k = 1) ∨ (t = 5 ∧ k = 5))
    (h1 : Cond.classLink (oN own) idx (qC k) ∈ GW) (hover : va_AO (qC k) s) {N : Nat} (h0 : ¬ i < 0) (hN : i.toNatClampNeg = N) (hle : N ≤ 67108864) (hc : cells + 1 ≤ R.cells) (hs : slots + N ≤ R.slots) (hd : decode cc pc = .ok (.anewarray idx, 3))
    (kk : ∀ (H1 : Heap), qW D dA sC H0 (qnew h (.inl (t, N, fun _ => .null)) N) H1 → W p l e R s m args below meth c H1 locs (cells + 1) (slots + N) Q (F0 m (pc + 3) ls (.ref (qad H0.size sC h.2.1) :: rest))) :
    W p l e R s m args below meth c H locs cells slots Q (F0 m pc ls (.int i :: rest)) := by
  subst hN
  have htt : va_RA s (dA t) (.object (qC k)) := by
    rcases htk with ⟨rfl, rfl⟩ | ⟨rfl, rfl⟩
    · exact (hK.2 4 _ rfl).2
    · exact (hK.2 5 _ rfl).2
  refine W.anew hx hb hown (hG _ h1) (va_AO.use hover) rfl hd rfl h0 (by omega) hc hs fun cA kA comp f1 f2 f3 f4 => ?_
  have htop := w.top hn
  obtain ⟨_, _, -, -, -, k4⟩ := htt
  have hcA : cA = dA t := Option.some.inj (f1.symm.trans k4)
  have key := kk (H.push ({ cls := cA, slots := Array.replicate i.toNatClampNeg .null, vm := .none } : Cell)) (w.new hn (by rw [Array.size_push]) (fun q hq => by rw [Array.getElem?_push, if_neg (Nat.ne_of_lt hq)]) (by
    show (H.push _)[qad H0.size sC h.2.1]? = some (arrV (dA t) _ (fun _ => .null))
    rw [htop, Array.getElem?_push_size, ← arrV_new, hcA]))
  rw [htop] at key
  exact key
end QAR
