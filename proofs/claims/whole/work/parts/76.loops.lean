/-! THE REFERENCE'S SEARCH: its two loops -/
section LOOPS
variable (m : Nat) (h0 : qH) (dd : Nat) (x3 : Int) (Q : qO → qB → Prop)
def Isub (B : qB) : Prop := qZ m h0 (dd + 1) k_sub 82 [some (.ref m), none, none, some (iv x3), none, some (iv 0)] [] B Q
def Osub (B : qB) : Prop := qZ m h0 (dd + 1) k_sub 16 [some (.ref m), none, none, some (iv x3), none, none] [] B Q
def Fsub (B : qB) : Prop := Q (.inl (some (iv (B 69 0)))) (u2 B 66 0 x3)
def Igo (B : qB) : Prop := qZ m h0 (dd + 1) k_go 68 [some (.ref m), none, none, some (iv 0)] [] B Q
def Ogo (B : qB) : Prop := qZ m h0 (dd + 1) k_go 9 [some (.ref m), none, none, none] [] B Q
def Fgo (B : qB) : Prop := (R32 (B 59 0) ∧ R32 (B 69 0) ∧ R32 (B 57 0)) ∧ (B 59 0 = 0 ∨ B 69 0 = B 57 0 → Q (.inl (some (iv (B 69 0)))) (u2 B 66 0 0)) ∧ (¬ (B 59 0 = 0 ∨ B 69 0 = B 57 0) → Ogo m h0 dd Q B)
def Ago (B : qB) : Prop := qZ m h0 dd k_asked 0 [some (.ref m), none, none, none, none] [] B (fun o B' => ∃ v : Int, o = .inl (some (iv v)) ∧ ((v = 0 ∧ Igo m h0 dd Q B') ∨ (v = 1 ∧ Ogo m h0 dd Q B')))
end LOOPS
section LOOPS2
variable {m : Nat} {h0 : qH} {d dd : Nat} {x3 : Int} {Q : qO → qB → Prop}
theorem LP_sub (hm : m + 100 < 1000000000) (hd : d + 4 ≤ dd) (x0 : 0 ≤ x3) (x1 : x3 < 2500000) : LPo m h0 (d + 4) x3 (Isub m h0 dd x3 Q) (Osub m h0 dd x3 Q) (Fsub x3 Q) (fun _ => False) := by
  refine ⟨fun B h => ?_, fun B h p pc e66 hb h1 e65 pc0 pc1 p0 p1 w => ?_, fun B h s v e66 hb h1 e65 s0 s1 v0 v1 w => ?_, fun B h s v e66 hb h1 e65 s0 s1 v0 v1 w => ?_⟩
  · refine r_sub_82_ok hm ?_
    unfold r_sub_82
    refine ⟨⟨by decide, by decide⟩, fun q => absurd rfl q, fun _ => qZ.mono h hd (fun o B' q => ?_)⟩
    obtain ⟨v, e, q⟩ := q
    refine ⟨v, e, ?_⟩
    unfold r_sub_91
    rcases q with ⟨e1, q⟩ | ⟨e1, q⟩ | ⟨e1, q⟩ | ⟨e1, q⟩
    · subst e1; exact q
    · subst e1
      refine r_sub_82_ok hm ?_
      unfold r_sub_82
      exact ⟨⟨by decide, by decide⟩, fun _ => ⟨fun _ => q, fun q => absurd q (by decide)⟩, fun q => absurd q (by decide)⟩
    · subst e1
      refine r_sub_82_ok hm ?_
      unfold r_sub_82
      exact ⟨⟨by decide, by decide⟩, fun _ => ⟨fun q => absurd rfl q, fun _ => q⟩, fun q => absurd q (by decide)⟩
    · exact q.elim
  · refine r_sub_16_ok hm ?_
    unfold r_sub_16
    rw [e66, show h + 1 - 1 = h by omega, e65, n_iRem (by omega) (by omega) (by decide) (by decide), n_iDiv (by omega) (by omega) (by decide) (by decide), show (8192 * p + pc) % 8192 = pc by omega, show (8192 * p + pc) / 8192 = p by omega]
    exact ⟨⟨by omega, by omega⟩, ⟨by omega, by omega⟩, fun q => by omega, fun _ => ⟨by omega, h1, ⟨by omega, by omega⟩, fun _ => w, fun q => by omega⟩⟩
  · refine r_sub_16_ok hm ?_
    unfold r_sub_16
    rw [e66, show h + 1 - 1 = h by omega, e65]
    refine ⟨⟨by omega, by omega⟩, ⟨by omega, by omega⟩, fun q => by omega, fun _ => ⟨by omega, h1, by unfold bw; exact ⟨by omega, by omega⟩, fun q => by unfold bw at q; omega, fun _ => ?_⟩⟩
    exact qZ.mono (d := d + 1) (R_restC hm s0 s1 v0 v1 ⟨rfl, w⟩) (by omega) (fun _ _ q => q)
  · refine r_sub_16_ok hm ?_
    unfold r_sub_16
    rw [e66, show h + 1 - 1 = h by omega, e65]
    refine ⟨⟨by omega, by omega⟩, ⟨by omega, by omega⟩, fun q => by omega, fun _ => ⟨by omega, h1, by unfold bw; exact ⟨by omega, by omega⟩, fun q => by unfold bw at q; omega, fun _ => ?_⟩⟩
    exact qZ.mono (d := d + 1) (R_restM hm s0 s1 v0 v1 ⟨rfl, w⟩) (by omega) (fun _ _ q => q)
theorem LP_go (hm : m + 100 < 1000000000) (hd : d + 4 ≤ dd) : LPo m h0 (d + 4) 0 (Igo m h0 dd Q) (Ogo m h0 dd Q) (Fgo m h0 dd Q) (Ago m h0 dd Q) := by
  refine ⟨fun B h => ?_, fun B h p pc e66 hb h1 e65 pc0 pc1 p0 p1 w => ?_, fun B h s v e66 hb h1 e65 s0 s1 v0 v1 w => ?_, fun B h s v e66 hb h1 e65 s0 s1 v0 v1 w => ?_⟩
  · refine r_go_68_ok hm ?_
    unfold r_go_68
    refine ⟨⟨by decide, by decide⟩, fun q => absurd rfl q, fun _ => qZ.mono h hd (fun o B' q => ?_)⟩
    obtain ⟨v, e, q⟩ := q
    refine ⟨v, e, ?_⟩
    unfold r_go_76
    rcases q with ⟨e1, q⟩ | ⟨e1, q⟩ | ⟨e1, q⟩ | ⟨e1, q⟩
    · subst e1
      exact ⟨⟨by decide, by decide⟩, fun _ => q, fun q => absurd q (by decide)⟩
    · subst e1
      refine ⟨⟨by decide, by decide⟩, fun _ => ?_, fun q => absurd q (by decide)⟩
      refine r_go_68_ok hm ?_
      unfold r_go_68 r_go_123
      exact ⟨⟨by decide, by decide⟩, fun _ => ⟨fun _ => q, fun q => absurd q (by decide)⟩, fun q => absurd q (by decide)⟩
    · subst e1
      refine ⟨⟨by decide, by decide⟩, fun _ => ?_, fun q => absurd q (by decide)⟩
      refine r_go_68_ok hm ?_
      unfold r_go_68 r_go_123
      obtain ⟨⟨q1, q2, q3⟩, q4, q5⟩ := q
      exact ⟨⟨by decide, by decide⟩, fun _ => ⟨fun q => absurd rfl q, fun _ => ⟨q1, fun z => q4 (Or.inl z), fun z => ⟨q2, q3, fun y => q5 (fun w => w.elim z y), fun y => q4 (Or.inr y)⟩⟩⟩, fun q => absurd q (by decide)⟩
    · subst e1
      refine ⟨⟨by decide, by decide⟩, fun q => absurd rfl q, fun _ => qZ.mono q (Nat.le_refl _) (fun o B' q => ?_)⟩
      obtain ⟨v, e, q⟩ := q
      refine ⟨v, e, ?_⟩
      unfold r_go_86
      rcases q with ⟨e1, q⟩ | ⟨e1, q⟩
      · subst e1; exact q
      · subst e1
        refine r_go_68_ok hm ?_
        unfold r_go_68 r_go_123
        exact ⟨⟨by decide, by decide⟩, fun _ => ⟨fun _ => q, fun q => absurd q (by decide)⟩, fun q => absurd q (by decide)⟩
  · refine r_go_9_ok hm ?_
    unfold r_go_9
    rw [e66, show h + 1 - 1 = h by omega, e65, n_iRem (by omega) (by omega) (by decide) (by decide), n_iDiv (by omega) (by omega) (by decide) (by decide), show (8192 * p + pc) % 8192 = pc by omega, show (8192 * p + pc) / 8192 = p by omega]
    exact ⟨⟨by omega, by omega⟩, fun q => by omega, fun _ => ⟨by omega, h1, ⟨by omega, by omega⟩, fun _ => w, fun q => by omega⟩⟩
  · refine r_go_9_ok hm ?_
    unfold r_go_9 r_go_45
    rw [e66, show h + 1 - 1 = h by omega, e65]
    refine ⟨⟨by omega, by omega⟩, fun q => by omega, fun _ => ⟨by omega, h1, by unfold bw; exact ⟨by omega, by omega⟩, fun q => by unfold bw at q; omega, fun _ => ?_⟩⟩
    exact qZ.mono (d := d + 1) (R_restC hm s0 s1 v0 v1 ⟨rfl, w⟩) (by omega) (fun _ _ q => q)
  · refine r_go_9_ok hm ?_
    unfold r_go_9 r_go_45
    rw [e66, show h + 1 - 1 = h by omega, e65]
    refine ⟨⟨by omega, by omega⟩, fun q => by omega, fun _ => ⟨by omega, h1, by unfold bw; exact ⟨by omega, by omega⟩, fun q => by unfold bw at q; omega, fun _ => ?_⟩⟩
    exact qZ.mono (d := d + 1) (R_restM hm s0 s1 v0 v1 ⟨rfl, w⟩) (by omega) (fun _ _ q => q)
end LOOPS2
/-! which groups a tree can change -/
def sl : qT → List Int
  | .num _ => []
  | .var _ => []
  | .add a b => sl a ++ sl b
  | .sub a b => sl a ++ sl b
  | .neg a => sl a
  | .mulL k a => if 1 ≤ k then (2 * k) :: (2 * k + 1) :: sl a else sl a
  | .mulR a k => if rl k = 0 ∧ rh k = 0 then [] else sl a
def Chg (D : Int → qCp → qWs) (l : List Int) : Prop := ∀ p c, ∀ o ∈ D p c, ∀ i, o.2 i = c i ∨ i ∈ l
theorem Chg_mono {D : Int → qCp → qWs} {l l' : List Int} (h : Chg D l) (e : ∀ i ∈ l, i ∈ l') : Chg D l' := fun p c o ho i => (h p c o ho i).imp id (e i)
theorem Chg_fm {D E : Int → qCp → qWs} {l : List Int} (h : Chg D l) (g : Chg E l) : Chg (fun p c => (D p c).flatMap (fun o => E o.1 o.2)) l := by
  intro p c o ho i
  obtain ⟨q, q1, q2⟩ := List.mem_flatMap.mp ho
  rcases g q.1 q.2 o q2 i with w | w
  · rcases h p c q q1 i with v | v
    · exact Or.inl (w.trans v)
    · exact Or.inr v
  · exact Or.inr w
theorem Chg_itr {D : Int → qCp → qWs} {l : List Int} (h : Chg D l) : ∀ k, Chg (itr D k) l := by
  intro k
  induction k with
  | zero => intro p c o ho i; rw [show itr D 0 p c = [(p, c)] from rfl, List.mem_singleton] at ho; subst ho; exact Or.inl rfl
  | succ k ih => exact fun p c o ho i => Chg_fm h ih p c o ho i
theorem Chg_opt {D : Int → qCp → qWs} {l : List Int} (h : Chg D l) (lz : Bool) : ∀ k, Chg (opt lz D k) l := by
  intro k
  induction k with
  | zero => intro p c o ho i; rw [show opt lz D 0 p c = [(p, c)] from rfl, List.mem_singleton] at ho; subst ho; exact Or.inl rfl
  | succ k ih =>
    intro p c o ho i
    have ho' : o ∈ (if lz = true then (p, c) :: (D p c).flatMap (fun o => opt lz D k o.1 o.2) else (D p c).flatMap (fun o => opt lz D k o.1 o.2) ++ [(p, c)]) := ho
    split at ho'
    · rcases List.mem_cons.mp ho' with q | q
      · subst q; exact Or.inl rfl
      · exact Chg_fm h ih p c o q i
    · rcases List.mem_append.mp ho' with q | q
      · exact Chg_fm h ih p c o q i
      · rw [List.mem_singleton] at q; subst q; exact Or.inl rfl
theorem Chg_stw {D : Int → qCp → qWs} {l : List Int} (h : Chg D l) (lz : Bool) : ∀ k, Chg (stw lz D k) l := by
  intro k
  induction k with
  | zero => intro p c o ho i; rw [show stw lz D 0 p c = [(p, c)] from rfl, List.mem_singleton] at ho; subst ho; exact Or.inl rfl
  | succ k ih =>
    intro p c o ho i
    have ho' : o ∈ (if lz = true then (p, c) :: (D p c).flatMap (fun o => if o.1 = p then [] else stw lz D k o.1 o.2) else (D p c).flatMap (fun o => if o.1 = p then [] else stw lz D k o.1 o.2) ++ [(p, c)]) := ho
    have hA : o ∈ (D p c).flatMap (fun o => if o.1 = p then [] else stw lz D k o.1 o.2) → o.2 i = c i ∨ i ∈ l := by
      intro q
      obtain ⟨q, q1, q2⟩ := List.mem_flatMap.mp q
      split at q2
      · exact absurd q2 (by simp)
      · rcases ih q.1 q.2 o q2 i with w | w
        · rcases h p c q q1 i with v | v
          · exact Or.inl (w.trans v)
          · exact Or.inr v
        · exact Or.inr w
    split at ho'
    · rcases List.mem_cons.mp ho' with q | q
      · subst q; exact Or.inl rfl
      · exact hA q
    · rcases List.mem_append.mp ho' with q | q
      · exact hA q
      · rw [List.mem_singleton] at q; subst q; exact Or.inl rfl
theorem Chg_rnd {D : Int → qCp → qWs} {l : List Int} (h : Chg D l) (n : Int) (lz : Bool) (a b : Int) (k : Nat) : Chg (fun p c => (itr D k p c).flatMap (fun o => mor n lz a b D o.1 o.2)) l := by
  refine Chg_fm (Chg_itr h k) (fun p c o ho i => ?_)
  unfold mor at ho
  split at ho
  · exact Chg_stw h lz _ p c o ho i
  · exact Chg_opt h lz _ p c o ho i
theorem rnd0 {D : Int → qCp → qWs} (n : Int) (lz : Bool) {a b : Int} (ha : a = 0) (hb : b = 0) : Chg (fun p c => (itr D a.toNat p c).flatMap (fun o => mor n lz a b D o.1 o.2)) [] := by
  subst ha
  subst hb
  intro p c o ho i
  left
  have ho' : o ∈ [(p, c)] := ho
  rw [List.mem_singleton] at ho'
  subst ho'
  rfl
theorem dn_Chg (n : Int) (tx : Int → Int) : ∀ e : qT, Chg (dn n tx e) (sl e) := by
  intro e
  induction e with
  | num k =>
    intro p c o ho i
    unfold dn at ho
    split at ho
    · rw [List.mem_singleton] at ho; subst ho; exact Or.inl rfl
    · exact absurd ho (by simp)
  | var s =>
    intro p c o ho i
    unfold dn at ho
    split at ho
    · rw [List.mem_singleton] at ho; subst ho; exact Or.inl rfl
    · exact absurd ho (by simp)
  | add a b ha hb => exact fun p c o ho i => Chg_fm (Chg_mono (l' := sl a ++ sl b) ha (fun i hi => List.mem_append_left _ hi)) (Chg_mono (l' := sl a ++ sl b) hb (fun i hi => List.mem_append_right _ hi)) p c o ho i
  | sub a b ha hb =>
    intro p c o ho i
    rcases List.mem_append.mp (show o ∈ dn n tx a p c ++ dn n tx b p c from ho) with q | q
    · exact (ha p c o q i).imp id (fun w => List.mem_append_left _ w)
    · exact (hb p c o q i).imp id (fun w => List.mem_append_right _ w)
  | neg a ha => exact fun p c o ho i => ha p c o ho i
  | mulL k a ha =>
    intro p c o ho i
    unfold dn at ho
    rw [sl]
    by_cases hk : 1 ≤ k
    · rw [if_pos hk] at ho ⊢
      obtain ⟨q, q1, q2⟩ := List.mem_flatMap.mp ho
      rw [List.mem_singleton] at q2
      subst q2
      by_cases e1 : i = 2 * k
      · subst e1; exact Or.inr (List.mem_cons_self ..)
      · by_cases e2 : i = 2 * k + 1
        · subst e2; exact Or.inr (List.mem_cons_of_mem _ (List.mem_cons_self ..))
        · rcases ha p _ q q1 i with w | w
          · left
            show upc q.2 (2 * k + 1) q.1 i = c i
            unfold upc
            rw [if_neg e2, w]
            unfold upc
            rw [if_neg e1]
          · exact Or.inr (List.mem_cons_of_mem _ (List.mem_cons_of_mem _ w))
    · rw [if_neg hk] at ho ⊢
      by_cases hz : k = 0
      · rw [if_pos hz] at ho
        cases hd : dn n tx a p c with
        | nil => rw [hd] at ho; exact absurd ho (by simp)
        | cons q t => rw [hd] at ho; rw [List.mem_singleton] at ho; subst ho; exact ha p c q (by rw [hd]; exact List.mem_cons_self ..) i
      · rw [if_neg hz] at ho
        cases hd : dn n tx a p c with
        | nil => rw [hd] at ho; rw [List.mem_singleton] at ho; subst ho; exact Or.inl rfl
        | cons q t => rw [hd] at ho; exact absurd ho (by simp)
  | mulR a k ha =>
    intro p c o ho i
    rw [dn_mulR] at ho
    rw [sl]
    by_cases hz : rl k = 0 ∧ rh k = 0
    · rw [if_pos hz]
      split at ho
      · exact rnd0 n false hz.1 hz.2 p c o (List.mem_of_mem_take ho) i
      · exact rnd0 n _ hz.1 hz.2 p c o ho i
    · rw [if_neg hz]
      split at ho
      · exact Chg_rnd ha n false (rl k) (rh k) _ p c o (List.mem_of_mem_take ho) i
      · exact Chg_rnd ha n _ (rl k) (rh k) _ p c o ho i
theorem sl_sv : ∀ e : qT, wf e → ((sl e).length : Int) ≤ sv e := by
  intro e
  induction e with
  | num k => intro _; exact Int.le_refl _
  | var s => intro _; exact Int.le_refl _
  | add a b ha hb => intro hw; have := ha hw.1; have := hb hw.2; rw [sl, sv, List.length_append]; omega
  | sub a b ha hb => intro hw; have := ha hw.1; have := hb hw.2; rw [sl, sv, List.length_append]; omega
  | neg a ha => intro hw; exact ha hw
  | mulL k a ha =>
    intro hw
    have := ha hw.2.2
    rw [sl, sv]
    split
    · simp only [List.length_cons]; omega
    · exact this
  | mulR a k ha =>
    intro hw
    obtain ⟨g1, g2, g3, g4, g5, g6, g7⟩ := hw
    have h1 := ha g7
    have h2 := sv_nn a g7
    have h3 := Int.mul_nonneg g1 h2
    rw [sl, sv]
    by_cases hz : rl k = 0 ∧ rh k = 0
    · rw [if_pos hz, hz.1, hz.2]
      simp
    · rw [if_neg hz]
      by_cases hl : 1 ≤ rl k
      · have : 1 * sv a ≤ rl k * sv a := Int.mul_le_mul_of_nonneg_right hl h2
        split
        · omega
        · have := Int.mul_nonneg (show 0 ≤ rh k - rl k by omega) h2
          omega
      · split
        · omega
        · have : 1 * sv a ≤ (rh k - rl k) * sv a := Int.mul_le_mul_of_nonneg_right (by omega) h2
          omega
/-- how many of the numbers below k are in a list -/
def cnt (l : List Int) : Nat → Int
  | 0 => 0
  | k + 1 => cnt l k + (if (k : Int) ∈ l then 1 else 0)
theorem cnt_cons (s : Int) (r : List Int) : ∀ k, cnt (s :: r) k ≤ cnt r k + (if 0 ≤ s ∧ s < k then 1 else 0) := by
  intro k
  induction k with
  | zero => unfold cnt; split <;> omega
  | succ k ih =>
    unfold cnt
    by_cases e : (k : Int) = s
    · rw [if_neg (by omega)] at ih
      rw [if_pos (show 0 ≤ s ∧ s < ((k + 1 : Nat) : Int) by omega)]
      have : (if (k : Int) ∈ s :: r then (1 : Int) else 0) ≤ 1 := by split <;> omega
      have : 0 ≤ (if (k : Int) ∈ r then (1 : Int) else 0) := by split <;> omega
      omega
    · have e2 : ((k : Int) ∈ s :: r) ↔ ((k : Int) ∈ r) := by
        rw [List.mem_cons]
        exact ⟨fun q => q.resolve_left e, Or.inr⟩
      have e3 : (if (k : Int) ∈ s :: r then (1 : Int) else 0) = (if (k : Int) ∈ r then 1 else 0) := by
        by_cases q : (k : Int) ∈ r
        · rw [if_pos q, if_pos (e2.mpr q)]
        · rw [if_neg q, if_neg (fun w => q (e2.mp w))]
      rw [e3]
      have e4 : (if 0 ≤ s ∧ s < (k : Int) then (1 : Int) else 0) ≤ (if 0 ≤ s ∧ s < ((k + 1 : Nat) : Int) then 1 else 0) := by
        by_cases q : 0 ≤ s ∧ s < (k : Int)
        · rw [if_pos q, if_pos (by omega)]; omega
        · rw [if_neg q]; split <;> omega
      omega
theorem cnt_le : ∀ (l : List Int) (k : Nat), cnt l k ≤ l.length := by
  intro l
  induction l with
  | nil =>
    intro k
    induction k with
    | zero => exact Int.le_refl _
    | succ k ih => unfold cnt; rw [if_neg (by simp)]; omega
  | cons s r ih =>
    intro k
    have h1 := cnt_cons s r k
    have h2 := ih k
    have : (if 0 ≤ s ∧ s < (k : Int) then (1 : Int) else 0) ≤ 1 := by split <;> omega
    rw [List.length_cons]
    omega
