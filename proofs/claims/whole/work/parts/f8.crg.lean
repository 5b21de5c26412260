/-! PURE: groups are places of the text; what a replacement writes -/
section CRG
variable {n : Int} {tx : Int → Int}
def crO (n : Int) (c : qCp) : Prop := ∀ i, -1 ≤ c i ∧ c i ≤ n
def CrD (n : Int) (D : Int → qCp → qWs) : Prop := ∀ p c, 0 ≤ p → p ≤ n → crO n c → ∀ o ∈ D p c, crO n o.2
theorem crO_up {c : qCp} {i v : Int} (h : crO n c) (v0 : -1 ≤ v) (v1 : v ≤ n) : crO n (upc c i v) := fun j => by
  unfold upc
  split
  · exact ⟨v0, v1⟩
  · exact h j
theorem Cr_itr {D : Int → qCp → qWs} (hR : Rg n D) (h : CrD n D) : ∀ k, CrD n (itr D k) := by
  intro k
  induction k with
  | zero =>
    intro p c _ _ hc o ho
    rw [List.mem_singleton.mp ho]
    exact hc
  | succ k ih =>
    intro p c p0 p1 hc o ho
    obtain ⟨q, q1, q2⟩ := List.mem_flatMap.mp ho
    have r := hR p c p0 p1 q q1
    exact ih q.1 q.2 (by omega) r.2 (h p c p0 p1 hc q q1) o q2
theorem Cr_opt {D : Int → qCp → qWs} {lz : Bool} (hR : Rg n D) (h : CrD n D) : ∀ k, CrD n (opt lz D k) := by
  intro k
  induction k with
  | zero =>
    intro p c _ _ hc o ho
    rw [List.mem_singleton.mp ho]
    exact hc
  | succ k ih =>
    intro p c p0 p1 hc o ho
    have fm : o ∈ (D p c).flatMap (fun o => opt lz D k o.1 o.2) → crO n o.2 := fun w => by
      obtain ⟨q, q1, q2⟩ := List.mem_flatMap.mp w
      have r := hR p c p0 p1 q q1
      exact ih q.1 q.2 (by omega) r.2 (h p c p0 p1 hc q q1) o q2
    unfold opt at ho
    split at ho
    · rcases List.mem_cons.mp ho with w | w
      · rw [w]; exact hc
      · exact fm w
    · rcases List.mem_append.mp ho with w | w
      · exact fm w
      · rw [List.mem_singleton.mp w]; exact hc
theorem Cr_stw {D : Int → qCp → qWs} {lz : Bool} (hR : Rg n D) (h : CrD n D) : ∀ k, CrD n (stw lz D k) := by
  intro k
  induction k with
  | zero =>
    intro p c _ _ hc o ho
    rw [List.mem_singleton.mp ho]
    exact hc
  | succ k ih =>
    intro p c p0 p1 hc o ho
    have fm : o ∈ (D p c).flatMap (fun o => if o.1 = p then [] else stw lz D k o.1 o.2) → crO n o.2 := fun w => by
      obtain ⟨q, q1, q2⟩ := List.mem_flatMap.mp w
      have r := hR p c p0 p1 q q1
      split at q2
      · cases q2
      · exact ih q.1 q.2 (by omega) r.2 (h p c p0 p1 hc q q1) o q2
    unfold stw at ho
    split at ho
    · rcases List.mem_cons.mp ho with w | w
      · rw [w]; exact hc
      · exact fm w
    · rcases List.mem_append.mp ho with w | w
      · exact fm w
      · rw [List.mem_singleton.mp w]; exact hc
theorem dn_Cr : ∀ e : qT, CrD n (dn n tx e) := by
  intro e
  induction e with
  | num k =>
    intro p c p0 p1 hc o ho
    unfold dn at ho
    split at ho
    · rw [List.mem_singleton.mp ho]; exact hc
    · cases ho
  | var s =>
    intro p c p0 p1 hc o ho
    unfold dn at ho
    split at ho
    · rw [List.mem_singleton.mp ho]; exact hc
    · cases ho
  | add a b ha hb =>
    intro p c p0 p1 hc o ho
    unfold dn at ho
    obtain ⟨q, q1, q2⟩ := List.mem_flatMap.mp ho
    have r := dn_Rg n tx a p c p0 p1 q q1
    exact hb q.1 q.2 (by omega) r.2 (ha p c p0 p1 hc q q1) o q2
  | sub a b ha hb =>
    intro p c p0 p1 hc o ho
    unfold dn at ho
    rcases List.mem_append.mp ho with w | w
    · exact ha p c p0 p1 hc o w
    · exact hb p c p0 p1 hc o w
  | neg a ha =>
    intro p c p0 p1 hc o ho
    unfold dn at ho
    exact ha p c p0 p1 hc o ho
  | mulL k a ha =>
    intro p c p0 p1 hc o ho
    unfold dn at ho
    split at ho
    · obtain ⟨q, q1, q2⟩ := List.mem_flatMap.mp ho
      have r := dn_Rg n tx a p _ p0 p1 q q1
      rw [List.mem_singleton.mp q2]
      exact crO_up (ha p _ p0 p1 (crO_up hc (by omega) p1) q q1) (by omega) r.2
    · split at ho
      · split at ho
        · cases ho
        · rename_i x r hx
          rw [List.mem_singleton.mp ho]
          exact ha p c p0 p1 hc x (by rw [hx]; exact List.mem_cons_self ..)
      · split at ho
        · rw [List.mem_singleton.mp ho]; exact hc
        · cases ho
  | mulR a k ha =>
    intro p c p0 p1 hc o ho
    have hR := dn_Rg n tx a
    have fm : ∀ lz, o ∈ (itr (dn n tx a) (rl k).toNat p c).flatMap (fun o => if rh k < 0 then stw lz (dn n tx a) (n - o.1).toNat o.1 o.2 else opt lz (dn n tx a) (rh k - rl k).toNat o.1 o.2) → crO n o.2 := fun lz w => by
      obtain ⟨q, q1, q2⟩ := List.mem_flatMap.mp w
      have r := Rg_itr hR (rl k).toNat p c p0 p1 q q1
      have hq := Cr_itr hR ha (rl k).toNat p c p0 p1 hc q q1
      split at q2
      · exact Cr_stw hR ha _ q.1 q.2 (by omega) r.2 hq o q2
      · exact Cr_opt hR ha _ q.1 q.2 (by omega) r.2 hq o q2
    unfold dn at ho
    split at ho
    · exact fm _ (List.mem_of_mem_take ho)
    · exact fm _ ho
/-- the groups of a match -/
theorem grp_cr {te b : Int} {e : qT} {o : Int × qCp} {rest : qWs} (b0 : 0 ≤ b) (b1 : b ≤ n) (h : wys n tx te e b = o :: rest) : ∀ i, -1 ≤ grp b o i ∧ grp b o i ≤ n := by
  have hm : o ∈ dn n tx e b (fun _ => -1) := (List.mem_filter.mp (show o ∈ (dn n tx e b (fun _ => -1)).filter (acc te n) by unfold wys at h; rw [h]; exact List.mem_cons_self ..)).1
  have r := dn_Rg n tx e b _ b0 b1 o hm
  have hc := dn_Cr e b _ b0 b1 (fun i => ⟨Int.le_refl _, by omega⟩) o hm
  intro i
  unfold grp
  split
  · omega
  · split
    · omega
    · exact hc i
theorem sgm_len : ∀ (k : Nat) (i : Int), (sgm tx k i).length = k := by
  intro k
  induction k with
  | zero => intro i; rfl
  | succ k ih => intro i; show (sgm tx k (i + 1)).length + 1 = k + 1; rw [ih]
theorem sgm_at : ∀ (k : Nat) (i j : Int), 0 ≤ j → j < k → wi (sgm tx k i) j = tx (i + j) := by
  intro k
  induction k with
  | zero => intro i j j0 j1; omega
  | succ k ih =>
    intro i j j0 j1
    show wi (tx i :: sgm tx k (i + 1)) j = _
    by_cases q : j = 0
    · subst q
      rw [Int.add_zero]
      rfl
    · have e : wi (tx i :: sgm tx k (i + 1)) j = wi (sgm tx k (i + 1)) (j - 1) := by
        unfold wi
        obtain ⟨m, rfl⟩ : ∃ m : Nat, j = (m : Int) + 1 := ⟨(j - 1).toNat, by omega⟩
        rw [show ((m : Int) + 1).toNat = m + 1 by omega, show ((m : Int) + 1 - 1).toNat = m by omega]
        rfl
      rw [e, ih (i + 1) (j - 1) (by omega) (by omega), show i + 1 + (j - 1) = i + j by omega]
theorem wi_appr {l r : List Int} {i : Int} (h : l.length ≤ i) : wi (l ++ r) i = wi r (i - l.length) := by
  unfold wi
  rw [List.getElem?_append_right (by omega), show i.toNat - l.length = (i - l.length).toNat by omega]
end CRG
/-- what the output holds: all that was to be written, as long as it fits -/
def OT (C : qB) (w : List Int) (f : Int) : Prop := ((w.length : Int) ≤ 1000 → f = 1 ∧ BY C 88 w.length (wi w)) ∧ (1000 < (w.length : Int) → f = 0 ∧ bOK C 88)
section OTL
variable {h1 : qH} {d : Nat} {Q : qO → qB → Prop} {C C' B : qB} {n : Int} {tx : Int → Int} {a1 : Nat} {w : List Int}
theorem OT.fr {f : Int} (h : OT C w f) (g : ∀ b x, b = 88 ∨ b = 89 → C' b x = C b x) : OT C' w f := ⟨fun q => ⟨(h.1 q).1, (h.1 q).2.fr (g _ _ (by omega)) (fun i => g _ _ (by omega))⟩, fun q => ⟨(h.2 q).1, by unfold bOK; rw [g _ _ (by omega)]; exact (h.2 q).2⟩⟩
theorem OT.ok {f : Int} (h : OT C w f) : (f = 0 ∨ f = 1) ∧ bOK C 88 := by
  by_cases q : (w.length : Int) ≤ 1000
  · exact ⟨Or.inr (h.1 q).1, (h.1 q).2.ok⟩
  · exact ⟨Or.inl (h.2 (by omega)).1, (h.2 (by omega)).2⟩
theorem OT.one (h : OT C w 1) : (w.length : Int) ≤ 1000 ∧ BY C 88 w.length (wi w) := by
  by_cases q : (w.length : Int) ≤ 1000
  · exact ⟨q, (h.1 q).2⟩
  · exact absurd (h.2 (by omega)).1 (by decide)
theorem OT.more (h : OT C w 0) (r : List Int) : OT C (w ++ r) 0 := by
  have hw : 1000 < (w.length : Int) := by
    by_cases q : (w.length : Int) ≤ 1000
    · exact absurd (h.1 q).1 (by decide)
    · omega
  have hl : ((w ++ r).length : Int) = w.length + r.length := by rw [List.length_append]; omega
  exact ⟨fun q => by omega, fun _ => ⟨rfl, (h.2 hw).2⟩⟩
/-- one byte is written -/
theorem OT.add {c : Int} (h : OT C w 1) (hc : 0 ≤ c ∧ c ≤ 255) : OT (adB C 88 c) (w ++ [c]) (bi (decide (C 88 1 < bl 88))) ∧ (∀ b x, b ≠ 88 → b ≠ 89 → adB C 88 c b x = C b x) := by
  obtain ⟨h1, h2⟩ := h.one
  have hl : ((w ++ [c]).length : Int) = w.length + 1 := by rw [List.length_append]; rfl
  rw [h2.1, ob88.2]
  by_cases q : (w.length : Int) < 1000
  · have h3 : BY C 88 w.length (wi (w ++ [c])) := h2.im (fun i i0 i1 => wi_app i0 i1)
    obtain ⟨-, a2, a3⟩ := h3.add (v := c) (by rw [ob88.2]; exact q) (by rw [wi_last, and_sm hc])
    refine ⟨⟨fun _ => ⟨by rw [decide_eq_true q]; rfl, by rw [hl]; exact a2⟩, fun z => by omega⟩, fun b x q1 q2 => a3 b x q1 q2⟩
  · have e : adB C 88 c = C := by
      unfold adB
      rw [h2.1, ob88.2, if_neg q]
    rw [e]
    exact ⟨⟨fun z => by omega, fun _ => ⟨by rw [decide_eq_false q]; rfl, h2.ok⟩⟩, fun _ _ _ _ => rfl⟩
/-- bytes of the text are written -/
theorem K_part2 {x y : Int} (hd : 2 ≤ d) (hS : SH C) (oT : ob 1 a1) (hT : a1 < 83) (hX : BY C a1 n tx) (h : OT C w 1) (hx : -1 ≤ x ∧ x ≤ n) (hy : -1 ≤ y ∧ y ≤ n)
    (k : ∀ C' v, SH C' → (∀ b z, b ≠ 88 → b ≠ 89 → C' b z = C b z) → OT C' (w ++ (if x < 0 ∨ y < 0 then [] else sgm tx (y - x).toNat x)) v → Q (.inl (some (iv v))) C') : qY h1 d n_By_addPart 0 [some (.ref 88), some (.ref a1), some (iv x), some (iv y), none] [] C Q := by
  obtain ⟨g1, g2⟩ := h.one
  have hn := hX.2.1
  have hb := bl_or oT
  refine K_addPart hd hS ob88.1 oT (by omega) g2 hX ⟨by omega, by omega⟩ hy (fun q => ?_) (fun q0 q1 q2 => ?_) (fun q0 q1 q2 C' s1 s2 s3 => ?_)
  · refine k C 1 hS (fun _ _ _ _ => rfl) ?_
    by_cases z : x < 0 ∨ y < 0
    · rw [if_pos z, List.append_nil]; exact h
    · rw [if_neg z, show (y - x).toNat = 0 by omega]
      show OT C (w ++ []) 1
      rw [List.append_nil]; exact h
  · rw [ob88.2] at q2
    refine k C 0 hS (fun _ _ _ _ => rfl) ?_
    rw [if_neg (by omega)]
    have hl : ((w ++ sgm tx (y - x).toNat x).length : Int) = w.length + (y - x) := by rw [List.length_append, sgm_len]; omega
    exact ⟨fun z => by omega, fun _ => ⟨rfl, g2.ok⟩⟩
  · rw [ob88.2] at q2
    refine k C' 1 s1 s2 ?_
    rw [if_neg (by omega)]
    have hl : ((w ++ sgm tx (y - x).toNat x).length : Int) = w.length + (y - x) := by rw [List.length_append, sgm_len]; omega
    refine ⟨fun _ => ⟨rfl, ?_⟩, fun z => by omega⟩
    rw [hl]
    refine s3.im (fun i i0 i1 => ?_)
    try dsimp only
    by_cases z : i < w.length
    · rw [if_pos z]; exact wi_app i0 z
    · rw [if_neg z, wi_appr (by omega), sgm_at _ _ _ (by omega) (by omega), show x + (i - w.length) = i - w.length + x by omega]
end OTL
