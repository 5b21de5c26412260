/-! PURE: the meaning looks at no byte outside of the text; the first match from a place on -/
section TX2
variable {n : Int} {tx ty : Int → Int}
theorem fm_cg {l : qWs} {f g : Int × qCp → qWs} (h : ∀ o ∈ l, f o = g o) : l.flatMap f = l.flatMap g := by
  induction l with
  | nil => rfl
  | cons a t ih =>
    rw [List.flatMap_cons, List.flatMap_cons, h a (List.mem_cons_self ..), ih (fun o ho => h o (List.mem_cons_of_mem _ ho))]
/-- the same ways from places of the text on -/
def EqD (n : Int) (D E : Int → qCp → qWs) : Prop := ∀ p c, 0 ≤ p → p ≤ n → D p c = E p c
theorem itr_cg {D E : Int → qCp → qWs} (hR : Rg n D) (h : EqD n D E) : ∀ k, EqD n (itr D k) (itr E k) := by
  intro k
  induction k with
  | zero => intro p c _ _; rfl
  | succ k ih =>
    intro p c p0 p1
    unfold itr
    rw [← h p c p0 p1]
    exact fm_cg (fun o ho => by have := hR p c p0 p1 o ho; exact ih _ _ (by omega) this.2)
theorem opt_cg {D E : Int → qCp → qWs} {lz : Bool} (hR : Rg n D) (h : EqD n D E) : ∀ k, EqD n (opt lz D k) (opt lz E k) := by
  intro k
  induction k with
  | zero => intro p c _ _; rfl
  | succ k ih =>
    intro p c p0 p1
    unfold opt
    have e : (D p c).flatMap (fun o => opt lz D k o.1 o.2) = (E p c).flatMap (fun o => opt lz E k o.1 o.2) := by
      rw [← h p c p0 p1]
      exact fm_cg (fun o ho => by have := hR p c p0 p1 o ho; exact ih _ _ (by omega) this.2)
    rw [e]
theorem stw_cg {D E : Int → qCp → qWs} {lz : Bool} (hR : Rg n D) (h : EqD n D E) : ∀ k, EqD n (stw lz D k) (stw lz E k) := by
  intro k
  induction k with
  | zero => intro p c _ _; rfl
  | succ k ih =>
    intro p c p0 p1
    unfold stw
    have e : (D p c).flatMap (fun o => if o.1 = p then [] else stw lz D k o.1 o.2) = (E p c).flatMap (fun o => if o.1 = p then [] else stw lz E k o.1 o.2) := by
      rw [← h p c p0 p1]
      refine fm_cg (fun o ho => ?_)
      have := hR p c p0 p1 o ho
      rw [ih o.1 o.2 (by omega) this.2]
    rw [e]
theorem edg_cg (h : ∀ p, 0 ≤ p → p < n → tx p = ty p) {p : Int} (p0 : 0 ≤ p) (p1 : p ≤ n) : edg n tx p = edg n ty p := by
  have e1 : (decide (0 < p) && isWd (tx (p - 1))) = (decide (0 < p) && isWd (ty (p - 1))) := by
    by_cases q : 0 < p
    · rw [h (p - 1) (by omega) (by omega)]
    · rw [decide_eq_false q]; rfl
  have e2 : (decide (p < n) && isWd (tx p)) = (decide (p < n) && isWd (ty p)) := by
    by_cases q : p < n
    · rw [h p p0 q]
    · rw [decide_eq_false q]; rfl
  unfold edg
  rw [e1, e2]
theorem dn_tx (h : ∀ p, 0 ≤ p → p < n → tx p = ty p) : ∀ e : qT, EqD n (dn n tx e) (dn n ty e) := by
  intro e
  induction e with
  | num k =>
    intro p c p0 p1
    unfold dn
    have : good n tx k p = good n ty k p := by unfold good; rw [edg_cg h p0 p1]
    rw [this]
  | var s =>
    intro p c p0 p1
    unfold dn
    by_cases q : p < n
    · rw [h p p0 q]
    · rw [if_neg (fun w => q w.1), if_neg (fun w => q w.1)]
  | add a b ha hb =>
    intro p c p0 p1
    unfold dn
    rw [← ha p c p0 p1]
    exact fm_cg (fun o ho => by have := dn_Rg n tx a p c p0 p1 o ho; exact hb _ _ (by omega) this.2)
  | sub a b ha hb =>
    intro p c p0 p1
    unfold dn
    rw [ha p c p0 p1, hb p c p0 p1]
  | neg a ha =>
    intro p c p0 p1
    unfold dn
    exact ha p c p0 p1
  | mulL k a ha =>
    intro p c p0 p1
    unfold dn
    rw [ha p _ p0 p1, ha p _ p0 p1]
  | mulR a k ha =>
    intro p c p0 p1
    have hR := dn_Rg n tx a
    have hI : Rg n (itr (dn n tx a) (rl k).toNat) := Rg_itr hR _
    have e1 := itr_cg hR ha (rl k).toNat p c p0 p1
    unfold dn
    rw [← e1]
    have e2 : ∀ lz, (itr (dn n tx a) (rl k).toNat p c).flatMap (fun o => if rh k < 0 then stw lz (dn n tx a) (n - o.1).toNat o.1 o.2 else opt lz (dn n tx a) (rh k - rl k).toNat o.1 o.2) = (itr (dn n tx a) (rl k).toNat p c).flatMap (fun o => if rh k < 0 then stw lz (dn n ty a) (n - o.1).toNat o.1 o.2 else opt lz (dn n ty a) (rh k - rl k).toNat o.1 o.2) := by
      intro lz
      refine fm_cg (fun o ho => ?_)
      have := hI p c p0 p1 o ho
      rw [stw_cg hR ha _ o.1 o.2 (by omega) this.2, opt_cg hR ha _ o.1 o.2 (by omega) this.2]
    rw [e2, e2]
theorem mtl_tx (h : ∀ p, 0 ≤ p → p < n → tx p = ty p) {e : qT} {te p : Int} (p0 : 0 ≤ p) (p1 : p ≤ n) : mtl n tx e te p = wys n ty te e p := by
  unfold mtl wys
  rw [dn_tx h e p _ p0 p1]
  rfl
/-- the first match, found place by place -/
theorem fst_some (h : ∀ p, 0 ≤ p → p < n → tx p = ty p) {e : qT} {te : Int} : ∀ (f : Nat) (s b : Int) (o : Int × qCp) (rest : qWs), 0 ≤ s → s ≤ b → b ≤ n → (∀ b', s ≤ b' → b' < b → wys n ty te e b' = []) → wys n ty te e b = o :: rest → b < s + f → fstM n tx e te f s = some (b, o) := by
  intro f
  induction f with
  | zero => intro s b o rest _ h1 _ _ _ h2; omega
  | succ f ih =>
    intro s b o rest s0 sb bn hp hb hf
    unfold fstM
    rw [if_neg (by omega), mtl_tx h s0 (by omega)]
    by_cases q : s = b
    · subst q
      rw [hb]
    · rw [hp s (Int.le_refl _) (by omega)]
      exact ih (s + 1) b o rest (by omega) (by omega) bn (fun b' q1 q2 => hp b' (by omega) q2) hb (by omega)
theorem fst_none (h : ∀ p, 0 ≤ p → p < n → tx p = ty p) {e : qT} {te : Int} : ∀ (f : Nat) (s : Int), 0 ≤ s → (∀ b', s ≤ b' → b' ≤ n → wys n ty te e b' = []) → fstM n tx e te f s = none := by
  intro f
  induction f with
  | zero => intro s _ _; rfl
  | succ f ih =>
    intro s s0 hp
    unfold fstM
    by_cases q : n < s
    · rw [if_pos q]
    · rw [if_neg q, mtl_tx h s0 (by omega), hp s (Int.le_refl _) (by omega)]
      exact ih (s + 1) (by omega) (fun b' q1 q2 => hp b' (by omega) q2)
end TX2
