/-! THE CLASS'S WALKER: what a walk apart leaves on the pile -/
theorem nodup_len : ∀ (l S : List Int), l.Nodup → (∀ x ∈ l, x ∈ S) → l.length ≤ S.length := by
  intro l
  induction l with
  | nil => intro S _ _; exact Nat.zero_le _
  | cons x l ih =>
    intro S hn hs
    rw [List.nodup_cons] at hn
    have hx := hs x (List.mem_cons_self ..)
    have := ih (S.erase x) hn.2 (fun y hy => by
      have hne : y ≠ x := fun e => hn.1 (by rw [← e]; exact hy)
      exact (List.mem_erase_of_ne hne).mpr (hs y (List.mem_cons_of_mem _ hy)))
    rw [List.length_erase_of_mem hx] at this
    have hp : 0 < S.length := List.length_pos_of_mem hx
    rw [List.length_cons]
    omega
/-- the entries from z on tell how the marks of S were: c, where they are c' now; nothing else lies there -/
def BK (S : List Int) (B : qB) (z : Int) (c c' : qCp) : Prop := (∀ j, z ≤ j → j < B 103 1 → B (pe B) j / 16777216 = 2 ∧ B (pe B) j / 16384 % 1024 < 20 ∧ enO (B (pe B) j) ∧ B (pe B) j % 1024 - 1 = c (B (pe B) j / 16384 % 1024)) ∧ (∀ i, 0 ≤ i → i < 20 → (∃ j, z ≤ j ∧ j < B 103 1 ∧ isU i (B (pe B) j)) ∨ ((∀ j, z ≤ j → j < B 103 1 → ¬ isU i (B (pe B) j)) ∧ c' i = c i)) ∧ B 103 1 ≤ z + S.length
section BKs
variable {h1 : qH} {c0 s0 : Int} {a t : Nat} {n te : Int} {P : qP} {H : Int → Nat → Option Bool} {tx : Int → Int} {K : Nat} {Mx : Int}
theorem BK_of {S : List Int} {B3 B4 : qB} {z : Int} {c c' : qCp} (hD : DW c0 s0 B3 B4 z) (hU : UN 1 S B3 z c c') : BK S B4 z c c' := by
  obtain ⟨-, -, d3, -, d5, -, d7, d8, d9⟩ := hD
  have ent : ∀ j, z ≤ j → j < B4 103 1 → B4 (pe B3) j % 1024 - 1 = c (B4 (pe B3) j / 16384 % 1024) ∧ B4 (pe B3) j / 16384 % 1024 ∈ S := by
    intro j j0 j1
    obtain ⟨e1, e2, ⟨e3, -⟩, k, k0, k1, k2, k3⟩ := d7 j j0 j1
    have hk : isU (B4 (pe B3) j / 16384 % 1024) (B3 (pe B3) k) := by rw [k2]; exact ⟨e1, rfl⟩
    rcases hU.2 (B4 (pe B3) j / 16384 % 1024) (by omega) e2 with ⟨j', q1, q2, q3, q4, q5, q6⟩ | ⟨q1, -⟩
    · have : j' = k := by
        rcases Int.lt_trichotomy j' k with w | w | w
        · exact absurd q3 (k3 j' q1 w)
        · exact w
        · exact absurd hk (q4 k k0 w)
      subst this
      rw [k2] at q5
      exact ⟨q5, q6 rfl⟩
    · exact absurd hk (q1 k k0 k1)
  unfold BK
  rw [d3]
  refine ⟨fun j j0 j1 => ?_, fun i i0 i1 => ?_, ?_⟩
  · obtain ⟨e1, e2, e3, -⟩ := d7 j j0 j1
    exact ⟨e1, e2, e3, (ent j j0 j1).1⟩
  · rcases hU.2 i i0 i1 with ⟨j', q1, q2, q3, -⟩ | ⟨q1, q2⟩
    · exact Or.inl (d8 j' q1 q2 i q3)
    · refine Or.inr ⟨fun j j0 j1 hj => ?_, q2⟩
      obtain ⟨-, -, -, k, k0, k1, k2, -⟩ := d7 j j0 j1
      exact q1 k k0 k1 (by rw [k2]; exact hj)
  · have hl := nodup_len ((List.range (B4 103 1 - z).toNat).map (fun m : Nat => B4 (pe B3) (z + (m : Int)) / 16384 % 1024)) S ?_ ?_
    · rw [List.length_map, List.length_range] at hl
      omega
    · rw [List.nodup_iff_pairwise_ne, List.pairwise_map]
      refine List.Pairwise.imp_of_mem ?_ List.pairwise_lt_range
      intro x y hx hy hxy
      rw [List.mem_range] at hy
      exact d9 _ _ (by omega) (by omega) (by omega)
    · intro x hx
      obtain ⟨m, m1, rfl⟩ := List.mem_map.mp hx
      rw [List.mem_range] at m1
      exact (ent _ (by omega) (by omega)).2
/-- the entries are taken back -/
theorem Fl_block {d : Nat} {lv hgt : Int} {Q : qO → qB → Prop} {k z : Int} {c : qCp} (hd : 6 ≤ d) (hg : 0 ≤ hgt ∧ hgt ≤ z) : ∀ (N : Nat) (B : qB), (B 103 1 - z).toNat = N → z ≤ B 103 1 → WI c0 s0 a t n te P H tx K B → (∀ j, z ≤ j → j < B 103 1 → B (pe B) j / 16777216 = 2 ∧ B (pe B) j / 16384 % 1024 < 20 ∧ enO (B (pe B) j) ∧ B (pe B) j % 1024 - 1 = c (B (pe B) j / 16384 % 1024)) → (∀ i, 0 ≤ i → i < 20 → (∃ j, z ≤ j ∧ j < B 103 1 ∧ isU i (B (pe B) j)) ∨ B 107 i = c i) → (∀ B', WI c0 s0 a t n te P H tx K B' → WF B B' → (∀ κ, rv B' κ = rv B κ) → B' 103 1 = z → PSm B B' z → MKs B' c → Fl h1 d lv hgt Q k B') → Fl h1 d lv hgt Q k B := by
  intro N
  induction N with
  | zero =>
    intro B hN hz hW hE hm w
    refine w B hW WF.refl (fun _ => rfl) (by omega) (fun _ _ _ => rfl) (fun i i0 i1 => ?_)
    rcases hm i i0 i1 with ⟨j, j0, j1, -⟩ | q
    · omega
    · exact q
  | succ N ih =>
    intro B hN hz hW hE hm w
    obtain ⟨e1, e2, e3, e4⟩ := hE (B 103 1 - 1) (by omega) (by omega)
    have e0 : 0 ≤ B (pe B) (B 103 1 - 1) / 16384 % 1024 := by have := e3.1; omega
    refine Fl_undo (c0 := c0) (s0 := s0) hd hW.1 hW.2.1 (by omega) hg.1 rfl e3 e1 e2 ?_
    obtain ⟨x1, x2, x3, x4, x5, x6⟩ := pop_all hW (by omega)
    obtain ⟨y1, y2, y3, y4, y5, y6⟩ := mk_all (i := B (pe B) (B 103 1 - 1) / 16384 % 1024) (x := B (pe B) (B 103 1 - 1) % 1024 - 1) e0 x1
    have hz' : (u2 (pop1 B) 107 (B (pe B) (B 103 1 - 1) / 16384 % 1024) (B (pe B) (B 103 1 - 1) % 1024 - 1)) 103 1 = B 103 1 - 1 := by rw [y4, x4]
    have hps : ∀ q, PSm B (u2 (pop1 B) 107 (B (pe B) (B 103 1 - 1) / 16384 % 1024) (B (pe B) (B 103 1 - 1) % 1024 - 1)) q := fun q => (x5 q).tr (y5 q)
    refine ih _ (by omega) (by omega) y1 (fun j j0 j1 => ?_) (fun i i0 i1 => ?_) (fun B' g1 g2 g3 g4 g5 g6 => ?_)
    · rw [hps (j + 1) j (by omega) (by omega)]
      exact hE j j0 (by omega)
    · by_cases ei : i = B (pe B) (B 103 1 - 1) / 16384 % 1024
      · right
        rw [ei, u2_same]
        exact e4
      · rcases hm i i0 i1 with ⟨j, j0, j1, j2⟩ | q
        · by_cases ej : j = B 103 1 - 1
          · rw [ej] at j2
            exact absurd j2.2.symm ei
          · exact Or.inl ⟨j, j0, by omega, by rw [hps (j + 1) j (by omega) (by omega)]; exact j2⟩
        · right
          rw [u2_idx ei, x6 107 i (by decide)]
          exact q
    · exact w B' g1 ((x2.tr y2).tr g2) (fun κ => by rw [g3, y3, x3]) g4 ((hps z).tr g5) g6
/-- entries above them -/
theorem UN_block {lv : Int} {S S' : List Int} {B : qB} {z z1 : Int} {c c1 c' : qCp} (hz : z ≤ z1) (hlv : lv ≠ 1) (hB : ∀ j, z ≤ j → j < z1 → B (pe B) j / 16777216 = 2 ∧ B (pe B) j / 16384 % 1024 < 20 ∧ enO (B (pe B) j) ∧ B (pe B) j % 1024 - 1 = c (B (pe B) j / 16384 % 1024)) (hm : ∀ i, 0 ≤ i → i < 20 → (∃ j, z ≤ j ∧ j < z1 ∧ isU i (B (pe B) j)) ∨ ((∀ j, z ≤ j → j < z1 → ¬ isU i (B (pe B) j)) ∧ c1 i = c i)) (hz1 : z1 ≤ B 103 1) (h : UN lv S B z1 c1 c') : UN lv S B z c c' := by
  refine ⟨fun j j0 j1 => ?_, fun i i0 i1 => ?_⟩
  · by_cases e : j < z1
    · have := hB j j0 e
      exact ⟨this.2.2.1, fun _ => this.2.1⟩
    · exact h.1 j (by omega) j1
  · rcases hm i i0 i1 with ⟨j, j0, j1, j2⟩ | ⟨q1, q2⟩
    · -- the lowest one
      have low : ∀ (N : Nat) (j : Int), (j - z).toNat < N → z ≤ j → j < z1 → isU i (B (pe B) j) → ∃ j', z ≤ j' ∧ j' < z1 ∧ isU i (B (pe B) j') ∧ ∀ j'', z ≤ j'' → j'' < j' → ¬ isU i (B (pe B) j'') := by
        intro N
        induction N with
        | zero => intro j hj; exact absurd hj (Nat.not_lt_zero _)
        | succ N ih =>
          intro j hj j0 j1 j2
          by_cases q : ∃ j'', z ≤ j'' ∧ j'' < j ∧ isU i (B (pe B) j'')
          · obtain ⟨j'', w1, w2, w3⟩ := q
            exact ih j'' (by omega) w1 (by omega) w3
          · exact ⟨j, j0, j1, j2, fun j'' w1 w2 w3 => q ⟨j'', w1, w2, w3⟩⟩
      obtain ⟨j', w1, w2, w3, w4⟩ := low _ j (Nat.lt_succ_self _) j0 j1 j2
      refine Or.inl ⟨j', w1, by omega, w3, w4, ?_, fun q => absurd q hlv⟩
      have := (hB j' w1 w2).2.2.2
      rw [w3.2] at this
      exact this
    · rcases h.2 i i0 i1 with ⟨j, p1, p2, p3, p4, p5, p6⟩ | ⟨p1, p2⟩
      · refine Or.inl ⟨j, by omega, p2, p3, fun j' j0 j1 => ?_, by rw [← q2]; exact p5, p6⟩
        by_cases e : j' < z1
        · exact q1 j' j0 e
        · exact p4 j' (by omega) j1
      · refine Or.inr ⟨fun j j0 j1 => ?_, by rw [← q2]; exact p2⟩
        by_cases e : j < z1
        · exact q1 j j0 e
        · exact p1 j (by omega) j1
end BKs
