/-! THE MEANING: the ways in which a tree matches from a place on, in the order of trying: place and groups at the end. n: how long the text is, tx: its bytes -/
abbrev qCp : Type := Int → Int
abbrev qWs : Type := List (Int × qCp)
def upc (c : qCp) (i v : Int) : qCp := fun j => if j = i then v else c j
def pl (l : qWs) : List Int := l.map (fun o => o.1)
/-- l rounds -/
def itr (D : Int → qCp → qWs) : Nat → Int → qCp → qWs
  | 0, p, c => [(p, c)]
  | k + 1, p, c => (D p c).flatMap (fun o => itr D k o.1 o.2)
/-- at most k rounds -/
def opt (lz : Bool) (D : Int → qCp → qWs) : Nat → Int → qCp → qWs
  | 0, p, c => [(p, c)]
  | k + 1, p, c => if lz = true then (p, c) :: (D p c).flatMap (fun o => opt lz D k o.1 o.2) else (D p c).flatMap (fun o => opt lz D k o.1 o.2) ++ [(p, c)]
/-- rounds without bound, those that move alone; f bounds them -/
def stw (lz : Bool) (D : Int → qCp → qWs) : Nat → Int → qCp → qWs
  | 0, p, c => [(p, c)]
  | f + 1, p, c => if lz = true then (p, c) :: (D p c).flatMap (fun o => if o.1 = p then [] else stw lz D f o.1 o.2) else (D p c).flatMap (fun o => if o.1 = p then [] else stw lz D f o.1 o.2) ++ [(p, c)]
section DN
variable (n : Int) (tx : Int → Int)
def edg (p : Int) : Bool := Bool.xor (decide (0 < p) && isWd (tx (p - 1))) (decide (p < n) && isWd (tx p))
def good (k p : Int) : Bool := if k = 1 then decide (p = 0) else if k = 2 then decide (p = n) else if k = 3 then edg n tx p else !edg n tx p
def dn : qT → Int → qCp → qWs
  | .num k, p, c => if k = 0 ∨ good n tx k p = true then [(p, c)] else []
  | .var s, p, c => if p < n ∧ s.testBit (tx p).toNat = true then [(p + 1, c)] else []
  | .add a b, p, c => (dn a p c).flatMap (fun o => dn b o.1 o.2)
  | .sub a b, p, c => dn a p c ++ dn b p c
  | .neg a, p, c => dn a p c
  | .mulL k a, p, c => if 1 ≤ k then (dn a p (upc c (2 * k) p)).flatMap (fun o => [(o.1, upc o.2 (2 * k + 1) o.1)]) else if k = 0 then (match dn a p c with
    | [] => []
    | o :: _ => [(p, o.2)]) else (match dn a p c with
    | [] => [(p, c)]
    | _ :: _ => [])
  | .mulR a k, p, c => if rg k = 2 then ((itr (dn a) (rl k).toNat p c).flatMap (fun o => if rh k < 0 then stw false (dn a) (n - o.1).toNat o.1 o.2 else opt false (dn a) (rh k - rl k).toNat o.1 o.2)).take 1
    else (itr (dn a) (rl k).toNat p c).flatMap (fun o => if rh k < 0 then stw (decide (rg k = 1)) (dn a) (n - o.1).toNat o.1 o.2 else opt (decide (rg k = 1)) (dn a) (rh k - rl k).toNat o.1 o.2)
end DN
/-- ways that go on to places between p and n -/
def Rg (n : Int) (D : Int → qCp → qWs) : Prop := ∀ p c, 0 ≤ p → p ≤ n → ∀ o ∈ D p c, p ≤ o.1 ∧ o.1 ≤ n
/-- places do not hang on the groups -/
def Pl (D : Int → qCp → qWs) : Prop := ∀ p c c', pl (D p c) = pl (D p c')
theorem Rg_fm {n : Int} {D E : Int → qCp → qWs} (h : Rg n D) (g : Rg n E) : Rg n (fun p c => (D p c).flatMap (fun o => E o.1 o.2)) := by
  intro p c h0 h1 o ho
  obtain ⟨q, q1, q2⟩ := List.mem_flatMap.mp ho
  have e1 := h p c h0 h1 q q1
  have e2 := g q.1 q.2 (by omega) e1.2 o q2
  omega
theorem pl_fm {F : Int → qCp → qWs} (hF : Pl F) : ∀ l l' : qWs, pl l = pl l' → pl (l.flatMap (fun o => F o.1 o.2)) = pl (l'.flatMap (fun o => F o.1 o.2)) := by
  intro l
  induction l with
  | nil =>
    intro l' h
    cases l' with
    | nil => rfl
    | cons b t => exact absurd h (by unfold pl; simp)
  | cons a t ih =>
    intro l' h
    cases l' with
    | nil => exact absurd h (by unfold pl; simp)
    | cons b t' =>
      have h1 : a.1 = b.1 ∧ pl t = pl t' := by
        unfold pl at h ⊢
        rw [List.map_cons, List.map_cons] at h
        exact ⟨(List.cons.inj h).1, (List.cons.inj h).2⟩
      have e1 := hF a.1 a.2 b.2
      have e2 := ih t' h1.2
      rw [List.flatMap_cons, List.flatMap_cons]
      unfold pl at e1 e2 ⊢
      rw [List.map_append, List.map_append, e1, e2, h1.1]
theorem pl_app {l l' k k' : qWs} (h : pl l = pl l') (g : pl k = pl k') : pl (l ++ k) = pl (l' ++ k') := by
  unfold pl at h g ⊢
  rw [List.map_append, List.map_append, h, g]
theorem Pl_fm {D E : Int → qCp → qWs} (h : Pl D) (g : Pl E) : Pl (fun p c => (D p c).flatMap (fun o => E o.1 o.2)) := fun p c c' => pl_fm g _ _ (h p c c')
theorem pl_nil {l l' : qWs} (h : pl l = pl l') : l = [] ↔ l' = [] := by
  unfold pl at h
  cases l with
  | nil => cases l' with
    | nil => exact Iff.rfl
    | cons b t => exact absurd h (by simp)
  | cons a t => cases l' with
    | nil => exact absurd h (by simp)
    | cons b t => exact ⟨fun q => absurd q (by simp), fun q => absurd q (by simp)⟩
theorem Rg_itr {n : Int} {D : Int → qCp → qWs} (h : Rg n D) : ∀ k, Rg n (itr D k) := by
  intro k
  induction k with
  | zero => intro p c h0 h1 o ho; rw [show itr D 0 p c = [(p, c)] from rfl, List.mem_singleton] at ho; subst ho; exact ⟨Int.le_refl _, h1⟩
  | succ k ih => exact fun p c h0 h1 o ho => Rg_fm h ih p c h0 h1 o ho
theorem Pl_itr {D : Int → qCp → qWs} (h : Pl D) : ∀ k, Pl (itr D k) := by
  intro k
  induction k with
  | zero => intro p c c'; rfl
  | succ k ih => exact fun p c c' => Pl_fm h ih p c c'
theorem Rg_opt {n : Int} {D : Int → qCp → qWs} (h : Rg n D) (lz : Bool) : ∀ k, Rg n (opt lz D k) := by
  intro k
  induction k with
  | zero => intro p c h0 h1 o ho; rw [show opt lz D 0 p c = [(p, c)] from rfl, List.mem_singleton] at ho; subst ho; exact ⟨Int.le_refl _, h1⟩
  | succ k ih =>
    intro p c h0 h1 o ho
    unfold opt at ho
    have hA := Rg_fm h ih p c h0 h1 o
    split at ho
    · rcases List.mem_cons.mp ho with q | q
      · subst q; exact ⟨Int.le_refl _, h1⟩
      · exact hA q
    · rcases List.mem_append.mp ho with q | q
      · exact hA q
      · rw [List.mem_singleton] at q; subst q; exact ⟨Int.le_refl _, h1⟩
theorem Pl_opt {D : Int → qCp → qWs} (h : Pl D) (lz : Bool) : ∀ k, Pl (opt lz D k) := by
  intro k
  induction k with
  | zero => intro p c c'; rfl
  | succ k ih =>
    intro p c c'
    have hA := Pl_fm h ih p c c'
    unfold opt
    split
    · exact pl_app (l := [(p, c)]) (l' := [(p, c')]) rfl hA
    · exact pl_app hA rfl
theorem Pl_mv {D : Int → qCp → qWs} (h : Pl D) (p : Int) : Pl (fun q c => if q = p then [] else D q c) := by
  intro q c c'
  by_cases e : q = p
  · simp only [if_pos e]
  · simp only [if_neg e]; exact h q c c'
theorem Rg_stw {n : Int} {D : Int → qCp → qWs} (h : Rg n D) (lz : Bool) : ∀ k, Rg n (stw lz D k) := by
  intro k
  induction k with
  | zero => intro p c h0 h1 o ho; rw [show stw lz D 0 p c = [(p, c)] from rfl, List.mem_singleton] at ho; subst ho; exact ⟨Int.le_refl _, h1⟩
  | succ k ih =>
    intro p c h0 h1 o ho
    unfold stw at ho
    have hA : o ∈ (D p c).flatMap (fun o => if o.1 = p then [] else stw lz D k o.1 o.2) → p ≤ o.1 ∧ o.1 ≤ n := by
      intro q
      obtain ⟨q, q1, q2⟩ := List.mem_flatMap.mp q
      have e1 := h p c h0 h1 q q1
      split at q2
      · exact absurd q2 (by simp)
      · have e2 := ih q.1 q.2 (by omega) e1.2 o q2
        omega
    split at ho
    · rcases List.mem_cons.mp ho with q | q
      · subst q; exact ⟨Int.le_refl _, h1⟩
      · exact hA q
    · rcases List.mem_append.mp ho with q | q
      · exact hA q
      · rw [List.mem_singleton] at q; subst q; exact ⟨Int.le_refl _, h1⟩
theorem Pl_stw {D : Int → qCp → qWs} (h : Pl D) (lz : Bool) : ∀ k, Pl (stw lz D k) := by
  intro k
  induction k with
  | zero => intro p c c'; rfl
  | succ k ih =>
    intro p c c'
    have hA : pl ((D p c).flatMap (fun o => if o.1 = p then [] else stw lz D k o.1 o.2)) = pl ((D p c').flatMap (fun o => if o.1 = p then [] else stw lz D k o.1 o.2)) := pl_fm (Pl_mv ih p) _ _ (h p c c')
    unfold stw
    split
    · exact pl_app (l := [(p, c)]) (l' := [(p, c')]) rfl hA
    · exact pl_app hA rfl
theorem fm_eq {l : qWs} {F G : Int × qCp → qWs} (h : ∀ o ∈ l, F o = G o) : l.flatMap F = l.flatMap G := by
  induction l with
  | nil => rfl
  | cons a t ih => rw [List.flatMap_cons, List.flatMap_cons, h a (List.mem_cons_self ..), ih (fun o ho => h o (List.mem_cons_of_mem _ ho))]
/-- more fuel than bytes left changes nothing -/
theorem stw_fuel {n : Int} {D : Int → qCp → qWs} (h : Rg n D) (lz : Bool) : ∀ (k k' : Nat) (p : Int) (c : qCp), 0 ≤ p → p ≤ n → (n - p).toNat ≤ k → (n - p).toNat ≤ k' → stw lz D k p c = stw lz D k' p c := by
  intro k
  induction k with
  | zero =>
    intro k' p c h0 h1 hk hk'
    have hp : p = n := by omega
    subst hp
    cases k' with
    | zero => rfl
    | succ k' =>
      have e : (D p c).flatMap (fun o => if o.1 = p then [] else stw lz D k' o.1 o.2) = [] := by
        rw [List.flatMap_eq_nil_iff]
        intro o ho
        have := h p c h0 h1 o ho
        rw [if_pos (by omega)]
      show [(p, c)] = (if lz = true then (p, c) :: (D p c).flatMap (fun o => if o.1 = p then [] else stw lz D k' o.1 o.2) else (D p c).flatMap (fun o => if o.1 = p then [] else stw lz D k' o.1 o.2) ++ [(p, c)])
      rw [e]
      split <;> rfl
  | succ k ih =>
    intro k' p c h0 h1 hk hk'
    have key : ∀ j : Nat, (n - p).toNat ≤ j + 1 → (D p c).flatMap (fun o => if o.1 = p then [] else stw lz D k o.1 o.2) = (D p c).flatMap (fun o => if o.1 = p then [] else stw lz D j o.1 o.2) := by
      intro j hj
      apply fm_eq
      intro o ho
      have hr := h p c h0 h1 o ho
      by_cases e : o.1 = p
      · rw [if_pos e, if_pos e]
      · rw [if_neg e, if_neg e]
        exact ih j o.1 o.2 (by omega) hr.2 (by omega) (by omega)
    cases k' with
    | zero =>
      have hp : p = n := by omega
      have e : (D p c).flatMap (fun o => if o.1 = p then [] else stw lz D k o.1 o.2) = [] := by
        rw [List.flatMap_eq_nil_iff]
        intro o ho
        have := h p c h0 h1 o ho
        rw [if_pos (by omega)]
      show (if lz = true then (p, c) :: (D p c).flatMap (fun o => if o.1 = p then [] else stw lz D k o.1 o.2) else (D p c).flatMap (fun o => if o.1 = p then [] else stw lz D k o.1 o.2) ++ [(p, c)]) = [(p, c)]
      rw [e]
      split <;> rfl
    | succ k' =>
      unfold stw
      rw [key k' hk']
/-- one round of rounds without bound -/
theorem stw_eq {n : Int} {D : Int → qCp → qWs} (h : Rg n D) (lz : Bool) {p : Int} {c : qCp} (h0 : 0 ≤ p) (h1 : p ≤ n) : stw lz D (n - p).toNat p c = if lz = true then (p, c) :: (D p c).flatMap (fun o => if o.1 = p then [] else stw lz D (n - o.1).toNat o.1 o.2) else (D p c).flatMap (fun o => if o.1 = p then [] else stw lz D (n - o.1).toNat o.1 o.2) ++ [(p, c)] := by
  rw [stw_fuel h lz (n - p).toNat ((n - p).toNat + 1) p c h0 h1 (Nat.le_refl _) (by omega)]
  have key : (D p c).flatMap (fun o => if o.1 = p then [] else stw lz D (n - p).toNat o.1 o.2) = (D p c).flatMap (fun o => if o.1 = p then [] else stw lz D (n - o.1).toNat o.1 o.2) := by
    apply fm_eq
    intro o ho
    have hr := h p c h0 h1 o ho
    by_cases e : o.1 = p
    · rw [if_pos e, if_pos e]
    · rw [if_neg e, if_neg e]
      exact stw_fuel h lz _ _ o.1 o.2 (by omega) hr.2 (by omega) (Nat.le_refl _)
  show (if lz = true then (p, c) :: (D p c).flatMap (fun o => if o.1 = p then [] else stw lz D (n - p).toNat o.1 o.2) else (D p c).flatMap (fun o => if o.1 = p then [] else stw lz D (n - p).toNat o.1 o.2) ++ [(p, c)]) = _
  rw [key]
theorem Rg_st {n : Int} {D : Int → qCp → qWs} (h : Rg n D) (lz : Bool) : Rg n (fun p c => stw lz D (n - p).toNat p c) := fun p c h0 h1 o ho => Rg_stw h lz _ p c h0 h1 o ho
theorem Rg_take {n : Int} {D : Int → qCp → qWs} (h : Rg n D) : Rg n (fun p c => (D p c).take 1) := fun p c h0 h1 o ho => h p c h0 h1 o (List.mem_of_mem_take ho)
theorem Pl_take {D : Int → qCp → qWs} (h : Pl D) : Pl (fun p c => (D p c).take 1) := by
  intro p c c'
  have := h p c c'
  unfold pl at this ⊢
  simp only [List.map_take, this]
/-- rounds beyond the least -/
def mor (n : Int) (lz : Bool) (l h : Int) (D : Int → qCp → qWs) (p : Int) (c : qCp) : qWs := if h < 0 then stw lz D (n - p).toNat p c else opt lz D (h - l).toNat p c
theorem Rg_mor {n : Int} {D : Int → qCp → qWs} (hD : Rg n D) (lz : Bool) (l h : Int) : Rg n (mor n lz l h D) := by
  intro p c h0 h1 o ho
  unfold mor at ho
  split at ho
  · exact Rg_stw hD lz _ p c h0 h1 o ho
  · exact Rg_opt hD lz _ p c h0 h1 o ho
theorem Pl_mor {D : Int → qCp → qWs} (hD : Pl D) (n : Int) (lz : Bool) (l h : Int) : Pl (mor n lz l h D) := by
  intro p c c'
  unfold mor
  split
  · exact Pl_stw hD lz _ p c c'
  · exact Pl_opt hD lz _ p c c'
theorem dn_mulR (n : Int) (tx : Int → Int) (a : qT) (k p : Int) (c : qCp) : dn n tx (.mulR a k) p c = if rg k = 2 then ((itr (dn n tx a) (rl k).toNat p c).flatMap (fun o => mor n false (rl k) (rh k) (dn n tx a) o.1 o.2)).take 1 else (itr (dn n tx a) (rl k).toNat p c).flatMap (fun o => mor n (decide (rg k = 1)) (rl k) (rh k) (dn n tx a) o.1 o.2) := rfl
theorem dn_Rg (n : Int) (tx : Int → Int) : ∀ e : qT, Rg n (dn n tx e) := by
  intro e
  induction e with
  | num k =>
    intro p c h0 h1 o ho
    unfold dn at ho
    split at ho
    · rw [List.mem_singleton] at ho; subst ho; exact ⟨Int.le_refl _, h1⟩
    · exact absurd ho (by simp)
  | var s =>
    intro p c h0 h1 o ho
    unfold dn at ho
    split at ho
    · next q => rw [List.mem_singleton] at ho; subst ho; exact ⟨by show p ≤ p + 1; omega, by show p + 1 ≤ n; omega⟩
    · exact absurd ho (by simp)
  | add a b ha hb => exact fun p c h0 h1 o ho => Rg_fm ha hb p c h0 h1 o ho
  | sub a b ha hb =>
    intro p c h0 h1 o ho
    rcases List.mem_append.mp (show o ∈ dn n tx a p c ++ dn n tx b p c from ho) with q | q
    · exact ha p c h0 h1 o q
    · exact hb p c h0 h1 o q
  | neg a ha => exact fun p c h0 h1 o ho => ha p c h0 h1 o ho
  | mulL k a ha =>
    intro p c h0 h1 o ho
    unfold dn at ho
    by_cases hk : 1 ≤ k
    · rw [if_pos hk] at ho
      obtain ⟨q, q1, q2⟩ := List.mem_flatMap.mp ho
      rw [List.mem_singleton] at q2
      subst q2
      exact ha p _ h0 h1 q q1
    · rw [if_neg hk] at ho
      by_cases hz : k = 0
      · rw [if_pos hz] at ho
        cases hd : dn n tx a p c with
        | nil => rw [hd] at ho; exact absurd ho (by simp)
        | cons q t => rw [hd] at ho; rw [List.mem_singleton] at ho; subst ho; exact ⟨Int.le_refl _, h1⟩
      · rw [if_neg hz] at ho
        cases hd : dn n tx a p c with
        | nil => rw [hd] at ho; rw [List.mem_singleton] at ho; subst ho; exact ⟨Int.le_refl _, h1⟩
        | cons q t => rw [hd] at ho; exact absurd ho (by simp)
  | mulR a k ha =>
    intro p c h0 h1 o ho
    rw [dn_mulR] at ho
    split at ho
    · exact Rg_fm (Rg_itr ha _) (Rg_mor ha false (rl k) (rh k)) p c h0 h1 o (List.mem_of_mem_take ho)
    · exact Rg_fm (Rg_itr ha _) (Rg_mor ha _ (rl k) (rh k)) p c h0 h1 o ho
theorem dn_Pl (n : Int) (tx : Int → Int) : ∀ e : qT, Pl (dn n tx e) := by
  intro e
  induction e with
  | num k =>
    intro p c c'
    unfold dn
    split <;> rfl
  | var s =>
    intro p c c'
    unfold dn
    split <;> rfl
  | add a b ha hb => exact fun p c c' => Pl_fm ha hb p c c'
  | sub a b ha hb => exact fun p c c' => pl_app (ha p c c') (hb p c c')
  | neg a ha => exact fun p c c' => ha p c c'
  | mulL k a ha =>
    intro p c c'
    unfold dn
    by_cases hk : 1 ≤ k
    · rw [if_pos hk, if_pos hk]
      exact pl_fm (F := fun q d => [(q, upc d (2 * k + 1) q)]) (fun _ _ _ => rfl) _ _ (ha p _ _)
    · rw [if_neg hk, if_neg hk]
      have hn := pl_nil (ha p c c')
      by_cases hz : k = 0
      · rw [if_pos hz, if_pos hz]
        cases hd : dn n tx a p c with
        | nil => rw [hn.mp hd]
        | cons q t => cases hd' : dn n tx a p c' with
          | nil => exact absurd (hn.mpr hd') (by rw [hd]; simp)
          | cons q' t' => rfl
      · rw [if_neg hz, if_neg hz]
        cases hd : dn n tx a p c with
        | nil => rw [hn.mp hd]; rfl
        | cons q t => cases hd' : dn n tx a p c' with
          | nil => exact absurd (hn.mpr hd') (by rw [hd]; simp)
          | cons q' t' => rfl
  | mulR a k ha =>
    intro p c c'
    rw [dn_mulR, dn_mulR]
    split
    · exact Pl_take (Pl_fm (Pl_itr ha _) (Pl_mor ha n false (rl k) (rh k))) p c c'
    · exact Pl_fm (Pl_itr ha _) (Pl_mor ha n _ (rl k) (rh k)) p c c'
