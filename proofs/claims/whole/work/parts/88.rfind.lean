/-! THE REFERENCE'S CALLS: find -/
/-- all matches from s on -/
def allM (n : Int) (tx : Int → Int) (e : qT) : Nat → Int → List (Int × (Int × qCp))
  | 0, _ => []
  | f + 1, s => match fstM n tx e 0 (n + 1 - s).toNat s with
    | none => []
    | some (b, o) => (b, o) :: allM n tx e f (if o.1 = b then o.1 + 1 else o.1)
def bgn (l : List (Int × (Int × qCp))) (i : Int) : Int := match l[i.toNat]? with
  | some x => x.1
  | none => 0
def edn (l : List (Int × (Int × qCp))) (i : Int) : Int := match l[i.toNat]? with
  | some x => x.2.1
  | none => 0
theorem fstM_bd {n : Int} {tx : Int → Int} {e : qT} {te : Int} : ∀ (f : Nat) (s : Int), 0 ≤ s → ∀ b o, fstM n tx e te f s = some (b, o) → s ≤ b ∧ b ≤ n ∧ b ≤ o.1 ∧ o.1 ≤ n := by
  intro f
  induction f with
  | zero => intro s _ b o h; exact absurd h (by simp [fstM])
  | succ f ih =>
    intro s s0 b o h
    have h' : (if n < s then none else match mtl n tx e te s with
        | [] => fstM n tx e te f (s + 1)
        | o :: _ => some (s, o)) = some (b, o) := h
    by_cases hn : n < s
    · rw [if_pos hn] at h'; exact absurd h' (by simp)
    · rw [if_neg hn] at h'
      cases hm : mtl n tx e te s with
      | nil =>
        rw [hm] at h'
        have := ih (s + 1) (by omega) b o h'
        omega
      | cons o' r =>
        rw [hm] at h'
        have h2 := Option.some.inj h'
        have e1 : s = b := congrArg Prod.fst h2
        have e2 : o' = o := congrArg Prod.snd h2
        subst e1
        subst e2
        have hmem : o' ∈ mtl n tx e te s := by rw [hm]; exact List.mem_cons_self ..
        have := dn_Rg n tx e s c0 s0 (by omega) o' (List.mem_filter.mp hmem).1
        omega
theorem allM_len {n : Int} {tx : Int → Int} {e : qT} : ∀ (f : Nat) (s : Int), 0 ≤ s → ((allM n tx e f s).length : Int) ≤ max 0 (n + 1 - s) := by
  intro f
  induction f with
  | zero => intro s _; simp [allM]; omega
  | succ f ih =>
    intro s s0
    have h : allM n tx e (f + 1) s = (match fstM n tx e 0 (n + 1 - s).toNat s with
      | none => []
      | some (b, o) => (b, o) :: allM n tx e f (if o.1 = b then o.1 + 1 else o.1)) := rfl
    rw [h]
    cases hf : fstM n tx e 0 (n + 1 - s).toNat s with
    | none => simp; omega
    | some x =>
      obtain ⟨b, o⟩ := x
      have hb := fstM_bd _ _ s0 b o hf
      have := ih (if o.1 = b then o.1 + 1 else o.1) (by split <;> omega)
      show (((b, o) :: allM n tx e f (if o.1 = b then o.1 + 1 else o.1)).length : Int) ≤ _
      rw [List.length_cons]
      have h2 : s + 1 ≤ (if o.1 = b then o.1 + 1 else o.1) := by split <;> omega
      omega
theorem PRE_fr2 {B B' : qB} {e : qT} (h : PRE B e) (s : ∀ b y, (b = 5 ∨ b = 27 ∨ (42 ≤ b ∧ b ≤ 48) ∨ (52 ≤ b ∧ b ≤ 58)) → B' b y = B b y) : PRE B' e := by
  obtain ⟨h1, h2, h3, h4, h5, h6, h7, h8, h9, h10, h11⟩ := h
  refine ⟨?_, by rw [s 42 _ (by omega)]; exact h2, by rw [s 46 0 (by omega)]; exact h3, GI_eq h4 (fun b y q => s b y (by omega)), by rw [s 47 0 (by omega)]; exact h5, by rw [s 48 0 (by omega)]; exact h6, ?_, h8, h9, h10, h11⟩
  · rw [s 48 0 (by omega), s 47 0 (by omega)]
    exact Seg_fr (fun y _ _ => s 52 y (by omega)) (fun y _ _ => s 54 y (by omega)) (fun y _ _ => s 53 y (by omega)) (fun y => s 27 y (by omega)) (Int.le_refl _) (Int.le_refl _) e 0 [] 0 h8 (fun b y b1 b2 _ _ => s b y (by omega)) h1
  · obtain ⟨t1, t2, t3, t4, t5⟩ := h7
    exact ⟨by rw [s 57 0 (by omega)]; exact t1, by rw [s 57 0 (by omega)]; exact t2, by rw [s 58 0 (by omega)]; exact t3, by rw [s 58 0 (by omega)]; exact t4, fun x x0 x1 => by rw [s 5 x (by omega)]; exact t5 x x0 x1⟩
section RFIND
variable {m : Nat} {h0 : qH} {d : Nat} {B : qB} {Q : qO → qB → Prop}
/-- what a search for the next match keeps -/
def SN (b : Nat) (y : Int) : Prop := (b ≤ 48 ∧ b ≠ 12 ∧ b ≠ 13) ∨ b = 50 ∨ (52 ≤ b ∧ b ≤ 64) ∨ (71 ≤ b ∧ b ≠ 72)
theorem R_nextMatch (hm : m + 100 < 1000000000) {e : qT} (hP : PRE B e) (hM : MR B) (h59 : B 59 0 = 0) (hN : NGood B e) {x : Int} (x0 : 0 ≤ x) (x1 : x ≤ 1001) (k0 : 0 ≤ B 72 0) (k1 : B 72 0 < 1001)
    (kN : fstM (B 57 0) (tB B) e 0 (B 57 0 + 1 - x).toNat x = none → ∀ B', FrS SB B B' → MR B' → Q (.inl (some (iv 0))) B')
    (kS : ∀ b o, fstM (B 57 0) (tB B) e 0 (B 57 0 + 1 - x).toNat x = some (b, o) → ∀ B', FrS SN B B' → MR B' → CR B' → NGood B' e → PRE B' e → B' 72 0 = B 72 0 + 1 → B' 12 (B 72 0) = b → B' 13 (B 72 0) = o.1 → (∀ c y, (c = 12 ∨ c = 13) → y ≠ B 72 0 → B' c y = B c y) → (∀ i, 0 ≤ i → i < 20 → B' 49 i = grp b o i) → Q (.inl (some (iv 1))) B') : qZ m h0 (d + 11) k_nextMatch 0 [some (.ref m), some (iv x), none, none] [] B Q := by
  have hT := hP.2.2.2.2.2.2.1
  obtain ⟨t1, t2, t3, t4, t5⟩ := hT
  have hk56 := PRE_56 hP
  have L : ∀ (N : Nat) (z : Int) (Bk : qB), 0 ≤ z → z ≤ 1001 → (B 57 0 + 1 - z).toNat = N → FrS SB B Bk → MR Bk → NGood Bk e → fstM (B 57 0) (tB B) e 0 N z = fstM (B 57 0) (tB B) e 0 (B 57 0 + 1 - x).toNat x → qZ m h0 (d + 11) k_nextMatch 2 [some (.ref m), none, some (iv z), none] [] Bk Q := by
    intro N
    induction N with
    | zero =>
      intro z Bk z0 z1 hN' f hMk ng hres
      have s57 : Bk 57 0 = B 57 0 := f 57 0 (by unfold SB; omega)
      refine r_nextMatch_2_ok hm ?_
      unfold r_nextMatch_2
      rw [s57]
      exact ⟨⟨by omega, by omega⟩, ⟨by omega, by omega⟩, fun _ => kN hres.symm Bk f hMk, fun q => by omega⟩
    | succ N ih =>
      intro z Bk z0 z1 hN' f hMk ng hres
      have s57 : Bk 57 0 = B 57 0 := f 57 0 (by unfold SB; omega)
      have s59 : Bk 59 0 = 0 := (f 59 0 (by unfold SB; omega)).trans h59
      have st : tB Bk = tB B := by
        funext p
        unfold tB
        rw [f 58 0 (by unfold SB; omega), f 5 _ (by unfold SB; omega)]
      refine r_nextMatch_2_ok hm ?_
      unfold r_nextMatch_2
      rw [s57]
      refine ⟨⟨by omega, by omega⟩, ⟨by omega, by omega⟩, fun q => by omega, fun _ => ?_⟩
      have hres' : (if B 57 0 < z then none else match mtl (B 57 0) (tB B) e 0 z with
          | [] => fstM (B 57 0) (tB B) e 0 N (z + 1)
          | o :: _ => some (z, o)) = fstM (B 57 0) (tB B) e 0 (B 57 0 + 1 - x).toNat x := hres
      rw [if_neg (by omega)] at hres'
      refine R_tryAt hm (e := e) (PRE_fr hP f) hMk (by omega) z0 (by rw [s57]; omega) ng (fun hn B' f' hM' ng' => ⟨_, rfl, ?_⟩) (fun o r hl B' f' hM' hC' o0 o1 c49 c491 c492 => ⟨_, rfl, ?_⟩)
      · rw [s57, st, s59] at hn
        rw [hn] at hres'
        unfold r_nextMatch_15
        refine ⟨⟨by decide, by decide⟩, fun q => absurd q (by decide), fun _ => ?_⟩
        exact ih (z + 1) B' (by omega) (by omega) (by omega) (FrS.trans f f' (fun _ _ q => q)) hM' ng' hres'
      · rw [s57, st, s59] at hl
        rw [hl] at hres'
        rw [s57] at o1
        have f2 : FrS SB B B' := FrS.trans f f' (fun _ _ q => q)
        have e72 : B' 72 0 = B 72 0 := f2 72 0 (by unfold SB; omega)
        unfold r_nextMatch_15
        rw [e72]
        refine ⟨⟨by omega, by omega⟩, fun _ => ⟨k0, k1, ?_⟩, fun q => by omega⟩
        have w : ∀ b y, b ≠ 12 → b ≠ 13 → b ≠ 72 → (u2 (u2 (u2 B' 12 (B 72 0) z) 13 (B 72 0) o.1) 72 0 (B 72 0 + 1)) b y = B' b y := fun b y q1 q2 q3 => by rw [u2_bank q3, u2_bank q2, u2_bank q1]
        have w72 : (u2 (u2 (u2 B' 12 (B 72 0) z) 13 (B 72 0) o.1) 72 0 (B 72 0 + 1)) 72 0 = B 72 0 + 1 := u2_same
        have w12 : (u2 (u2 (u2 B' 12 (B 72 0) z) 13 (B 72 0) o.1) 72 0 (B 72 0 + 1)) 12 (B 72 0) = z := by rw [u2_bank (by decide), u2_bank (by decide), u2_same]
        have w13 : (u2 (u2 (u2 B' 12 (B 72 0) z) 13 (B 72 0) o.1) 72 0 (B 72 0 + 1)) 13 (B 72 0) = o.1 := by rw [u2_bank (by decide), u2_same]
        have wo : ∀ c y, (c = 12 ∨ c = 13) → y ≠ B 72 0 → (u2 (u2 (u2 B' 12 (B 72 0) z) 13 (B 72 0) o.1) 72 0 (B 72 0 + 1)) c y = B c y := fun c y hc hy => by rw [u2_bank (by omega), u2_idx hy, u2_idx hy]; exact f2 c y (by unfold SB; omega)
        generalize u2 (u2 (u2 B' 12 (B 72 0) z) 13 (B 72 0) o.1) 72 0 (B 72 0 + 1) = B3 at *
        have e56 : B3 56 0 = B 56 0 := (w 56 0 (by decide) (by decide) (by decide)).trans (f2 56 0 (by unfold SB; omega))
        have e57 : B3 57 0 = B 57 0 := (w 57 0 (by decide) (by decide) (by decide)).trans (f2 57 0 (by unfold SB; omega))
        refine qZ.mono (d := d + 2) (R_newSearch hm (by omega) (by omega) (by omega) (by omega) (fun B4 n1 n2 => ⟨rfl, ?_⟩)) (by omega) (fun _ _ q => q)
        unfold r_nextMatch_57
        have f4 : ∀ b y, SN b y → B4 b y = B b y := fun b y q => by
          rw [n1 b y (by unfold SN at q; omega), w b y (by unfold SN at q; omega) (by unfold SN at q; omega) (by unfold SN at q; omega)]
          exact f2 b y (by unfold SN at q; unfold SB; omega)
        have p4 : PRE B4 e := PRE_fr2 hP (fun b y q => f4 b y (by unfold SN; omega))
        refine kS z o hres'.symm B4 f4 (fun q q0 q1 => by rw [n1 51 q (by decide), w 51 q (by decide) (by decide) (by decide)]; exact hM' q q0 q1) (fun q q0 q1 => by rw [n1 49 q (by decide), w 49 q (by decide) (by decide) (by decide)]; exact hC' q q0 q1) (NG_new p4 (by rw [n1 56 0 (by decide), n1 57 0 (by decide)]; exact n2)) p4 ((n1 72 0 (by decide)).trans w72) ((n1 12 _ (by decide)).trans w12) ((n1 13 _ (by decide)).trans w13) (fun c y hc hy => (n1 c y (by omega)).trans (wo c y hc hy)) (fun i i0 i1 => ?_)
        rw [n1 49 i (by decide), w 49 i (by decide) (by decide) (by decide)]
        unfold grp
        by_cases q0 : i = 0
        · rw [if_pos q0, q0]; exact c49
        · rw [if_neg q0]
          by_cases q1 : i = 1
          · rw [if_pos q1, q1]; exact c491
          · rw [if_neg q1]; exact c492 i (by omega) i1
  refine r_nextMatch_0_ok hm ?_
  unfold r_nextMatch_0
  exact L (B 57 0 + 1 - x).toNat x B x0 x1 rfl FrS.refl hM hN rfl
theorem R_behindLast (hm : m + 100 < 1000000000) {b e : Int} (k0 : 1 ≤ B 72 0) (k1 : B 72 0 ≤ 1001) (hb : B 12 (B 72 0 - 1) = b) (he : B 13 (B 72 0 - 1) = e) (rb : R32 b) (re : R32 e) (k : Q (.inl (some (iv (if e = b then e + 1 else e)))) B) : qZ m h0 (d + 1) k_behindLast 0 [some (.ref m)] [] B Q := by
  refine r_behindLast_0_ok hm ?_
  unfold r_behindLast_0
  rw [hb, he]
  refine ⟨by omega, by omega, re, rb, fun z => ?_, fun z => ?_⟩
  · rw [if_neg z] at k; rw [Int.add_zero]; exact k
  · rw [if_pos z] at k; exact k
theorem R_keepFound (hm : m + 100 < 1000000000) (k0 : 0 ≤ B 72 0) (k1 : B 72 0 ≤ 1001) (k : ∀ B', (∀ b y, b ≠ 10 → b ≠ 11 → b ≠ 14 → B' b y = B b y) → B' 14 0 = B 72 0 → (∀ i, 0 ≤ i → i < B 72 0 → B' 10 i = B 12 i ∧ B' 11 i = B 13 i) → (∀ i, B 72 0 ≤ i → B' 10 i = B 10 i ∧ B' 11 i = B 11 i) → Q (.inl none) B') : qZ m h0 (d + 1) k_keepFound 0 [some (.ref m), none] [] B Q := by
  have L : ∀ (N : Nat) (x : Int) (Bk : qB), 0 ≤ x → x + N = B 72 0 → (∀ b y, b ≠ 10 → b ≠ 11 → b ≠ 14 → Bk b y = B b y) → Bk 14 0 = B 72 0 → (∀ i, 0 ≤ i → i < x → Bk 10 i = B 12 i ∧ Bk 11 i = B 13 i) → (∀ i, x ≤ i → Bk 10 i = B 10 i ∧ Bk 11 i = B 11 i) → qZ m h0 (d + 1) k_keepFound 10 [some (.ref m), some (iv x)] [] Bk Q := by
    intro N
    induction N with
    | zero =>
      intro x Bk x0 hx e1 e2 e3 e4
      refine r_keepFound_10_ok hm ?_
      unfold r_keepFound_10
      rw [e2]
      exact ⟨⟨by omega, by omega⟩, ⟨by omega, by omega⟩, fun _ => k Bk e1 e2 (fun i i0 i1 => e3 i i0 (by omega)) (fun i hi => e4 i (by omega)), fun q => by omega⟩
    | succ N ih =>
      intro x Bk x0 hx e1 e2 e3 e4
      refine r_keepFound_10_ok hm ?_
      unfold r_keepFound_10
      rw [e2, e1 12 x (by decide) (by decide) (by decide), e1 13 x (by decide) (by decide) (by decide)]
      refine ⟨⟨by omega, by omega⟩, ⟨by omega, by omega⟩, fun q => by omega, fun _ => ⟨x0, by omega, ih (x + 1) _ (by omega) (by omega) (fun b y q1 q2 q3 => by rw [u2_bank q2, u2_bank q1]; exact e1 b y q1 q2 q3) (by rw [u2_bank (by decide), u2_bank (by decide)]; exact e2) (fun i i0 i1 => ?_) (fun i hi => by rw [u2_bank (by decide), u2_idx (by omega), u2_idx (by omega), u2_bank (by decide)]; exact e4 i (by omega))⟩⟩
      by_cases e9 : i = x
      · subst e9; rw [u2_bank (by decide), u2_same, u2_same]; exact ⟨rfl, rfl⟩
      · rw [u2_bank (by decide), u2_idx e9, u2_idx e9, u2_bank (by decide)]; exact e3 i i0 (by omega)
  refine r_keepFound_0_ok hm ?_
  unfold r_keepFound_0
  exact L (B 72 0).toNat 0 _ (Int.le_refl _) (by omega) (fun b y _ _ q => u2_bank q) u2_same (fun i i0 i1 => by omega) (fun i _ => ⟨u2_bank (by decide), u2_bank (by decide)⟩)
theorem bgn_app {l r : List (Int × (Int × qCp))} {i : Int} (h0 : 0 ≤ i) (h : i < l.length) : bgn (l ++ r) i = bgn l i ∧ edn (l ++ r) i = edn l i := by
  unfold bgn edn
  rw [List.getElem?_append_left (by omega)]
  exact ⟨rfl, rfl⟩
theorem bgn_last {l r : List (Int × (Int × qCp))} {x : Int × (Int × qCp)} : bgn (l ++ x :: r) l.length = x.1 ∧ edn (l ++ x :: r) l.length = x.2.1 := by
  unfold bgn edn
  rw [List.getElem?_append_right (by omega)]
  simp
theorem R_find (hm : m + 100 < 1000000000) {p t : Int} (hp : R32 p) (ht : R32 t) (hO : OI B)
    (k1 : ¬ ((0 ≤ p ∧ p ≤ 7) ∧ 0 ≤ t ∧ t ≤ 3) → Q (.inl (some (iv 0))) (u2 B 0 0 1))
    (k2 : ((0 ≤ p ∧ p ≤ 7) ∧ 0 ≤ t ∧ t ≤ 3) → B 6 p = 0 → Q (.inl (some (iv 0))) (u2 B 0 0 2))
    (k3 : ((0 ≤ p ∧ p ≤ 7) ∧ 0 ≤ t ∧ t ≤ 3) → ¬ B 6 p = 0 → 300 < B 9 t → Q (.inl (some (iv 0))) (u2 B 0 0 3))
    (k4 : ((0 ≤ p ∧ p ≤ 7) ∧ 0 ≤ t ∧ t ≤ 3) → ¬ B 6 p = 0 → B 9 t ≤ 300 → ∀ l, l = allM (B 9 t) (txB B t) (tre B p) 1002 0 → ∀ B', OI B' → B' 0 0 = 0 → (∀ b y, Pb b y → b ≠ 10 → b ≠ 11 → b ≠ 14 → B' b y = B b y) → B' 14 0 = l.length → (∀ i : Int, 0 ≤ i → i < l.length → B' 10 i = bgn l i ∧ B' 11 i = edn l i) → Q (.inl (some (iv l.length))) B') : qZ m h0 (d + 12) k_find 0 [some (.ref m), some (iv p), some (iv t), none] [] B Q := by
  have hO0 := hO
  obtain ⟨g1, g2, g3, g4, g5, g6, g7, g8, g9, g10, g11, g12, g13, g14⟩ := hO
  have ref : ¬ ((0 ≤ p ∧ p ≤ 7) ∧ 0 ≤ t ∧ t ≤ 3) → r_find_19 m h0 (d + 11) B Q := by
    intro q
    unfold r_find_19
    refine qZ.mono (d := d + 1) (R_refuse hm ⟨_, rfl, ?_⟩) (by omega) (fun _ _ q => q)
    unfold r_find_24
    exact k1 q
  refine r_find_0_ok hm ?_
  unfold r_find_0
  refine qZ.mono (d := d + 1) (R_in2 hm hp ⟨by decide, by decide⟩ ⟨by decide, by decide⟩ (fun q1 q2 => ⟨_, rfl, ?_⟩) (fun q => ⟨_, rfl, ?_⟩)) (by omega) (fun _ _ q => q)
  · unfold r_find_7
    refine ⟨⟨by decide, by decide⟩, fun q => absurd q (by decide), fun _ => ?_⟩
    refine qZ.mono (d := d + 1) (R_in2 hm ht ⟨by decide, by decide⟩ ⟨by decide, by decide⟩ (fun q3 q4 => ⟨_, rfl, ?_⟩) (fun q => ⟨_, rfl, ?_⟩)) (by omega) (fun _ _ q => q)
    · have hr : ((0 ≤ p ∧ p ≤ 7) ∧ 0 ≤ t ∧ t ≤ 3) := ⟨⟨q1, q2⟩, q3, q4⟩
      have hpp := g4 p q1 (by omega)
      have hn := g6 t q3 (by omega)
      unfold r_find_16
      refine ⟨⟨by decide, by decide⟩, fun _ => ⟨q1, by omega, ⟨by omega, by omega⟩, fun h6 => ⟨q3, by omega, ⟨by omega, by omega⟩, fun hle => ?_, fun hgt => ?_⟩, fun h6 => ?_⟩, fun q => absurd q (by decide)⟩
      · have hPT := hpp.2.2 (by omega)
        have b0 : ∀ b y, b ≠ 0 → (u2 B 0 0 0) b y = B b y := fun b y q => u2_bank q
        have ef : sgF (pB (u2 B 0 0 0) p) ((u2 B 0 0 0) 6 p - 1) = sgF (pB B p) (B 6 p - 1) := (tre_fr (fun i _ _ => b0 4 _ (by decide)) (b0 6 p (by decide))).1
        refine qZ.mono (d := d + 9) (R_prepare hm (e := tre B p) (gr := B 8 p) (t := t) q1 (by omega) (by rw [b0 6 p (by decide)]; omega) (by rw [b0 6 p (by decide)]; exact hpp.2.1) (fun i i0 i1 => by rw [b0 4 i (by decide)]; exact g3 i i0 i1) (fun y hy => by rw [b0 31 y (by decide)]; exact g9 y hy) (by rw [ef]; exact hPT.1) hPT.2.2 q3 (by omega) (by rw [b0 9 t (by decide)]; exact hn.1) (by rw [b0 9 t (by decide)]; exact hn.2) (fun x x0 x1 => by rw [b0 5 x (by decide)]; exact g5 x x0 x1) (fun B1 pre clr e57 e58 fr => ⟨rfl, ?_⟩)) (by omega) (fun _ _ q => q)
        rw [b0 9 t (by decide)] at e57
        have fr0 : ∀ b y, PS b y → b ≠ 0 → B1 b y = B b y := fun b y q q0 => (fr b y q).trans (b0 b y q0)
        have f00 : B1 0 0 = 0 := by rw [fr 0 0 (by unfold PS; omega), u2_same]
        unfold r_find_69
        -- the loop
        have L : ∀ (f : Nat) (z : Int) (done : List (Int × (Int × qCp))) (Bk : qB), 0 ≤ z → z ≤ 1001 → done ++ allM (B 9 t) (txB B t) (tre B p) f z = allM (B 9 t) (txB B t) (tre B p) 1002 0 → (B 9 t + 1 - z) < f → 0 < f → (done.length : Int) ≤ z → PRE Bk (tre B p) → NGood Bk (tre B p) → MR Bk → Bk 57 0 = B 9 t → tB Bk = txB B t → Bk 0 0 = 0 → (∀ b y, Pb b y ∨ (b = 31 ∧ y < 0) ∨ b = 59 → Bk b y = B b y) → Bk 72 0 = done.length → (∀ i : Int, 0 ≤ i → i < done.length → Bk 12 i = bgn done i ∧ Bk 13 i = edn done i) → (∀ i : Int, 0 ≤ i → i < done.length → 0 ≤ bgn done i ∧ bgn done i ≤ 1000 ∧ 0 ≤ edn done i ∧ edn done i ≤ 1000) → qZ m h0 (d + 12) k_find 76 [some (.ref m), none, none, some (iv z)] [] Bk Q := by
          intro f
          induction f with
          | zero => intro z done Bk z0 z1 hl hf hf0; omega
          | succ f ih =>
            intro z done Bk z0 z1 hl hf hf0 hdz pk nk mk k57 kt k00 kP k72 k12 kR
            -- the end
            have fin : ∀ Bx, done = allM (B 9 t) (txB B t) (tre B p) 1002 0 → MR Bx → (∀ b y, SB b y → Bx b y = Bk b y) → r_find_100 m h0 (d + 11) Bx Q := by
              intro Bx hd hMx fx
              have x72 : Bx 72 0 = done.length := (fx 72 0 (by unfold SB; omega)).trans k72
              unfold r_find_100
              refine qZ.mono (d := d + 1) (R_keepFound hm (by omega) (by omega) (fun By y1 y2 y3 y4 => ⟨rfl, ?_⟩)) (by omega) (fun _ _ q => q)
              unfold r_find_104
              rw [y2, x72]
              have pb : ∀ b y, Pb b y ∨ (b = 31 ∧ y < 0) ∨ b = 59 → b ≠ 10 → b ≠ 11 → b ≠ 14 → By b y = B b y := fun b y q n1 n2 n3 => by rw [y1 b y n1 n2 n3, fx b y (by unfold Pb at q; unfold SB; omega)]; exact kP b y q
              have v10 : ∀ i : Int, 0 ≤ i → i < done.length → By 10 i = bgn done i ∧ By 11 i = edn done i := fun i i0 i1 => by
                have h9 := y3 i i0 (by omega)
                rw [h9.1, h9.2, fx 12 i (by unfold SB; omega), fx 13 i (by unfold SB; omega)]
                exact k12 i i0 i1
              refine k4 hr h6 hle done hd By ?_ (by rw [y1 0 0 (by decide) (by decide) (by decide), fx 0 0 (by unfold SB; omega)]; exact k00) (fun b y q n1 n2 n3 => pb b y (Or.inl q) n1 n2 n3) (by rw [y2]; exact x72) v10
              have a : ∀ b y, (1 ≤ b ∧ b ≤ 9) ∨ b = 50 ∨ b = 71 → By b y = B b y := fun b y q => pb b y (by unfold Pb; omega) (by omega) (by omega) (by omega)
              refine OI_gen hO0 (fun b y q => ?_) (by rw [a 2 0 (by omega)]; exact g1) (fun i i0 i1 => by rw [a 1 i (by omega)]; exact g2 i i0 i1) (fun x x0 x1 => by rw [a 5 x (by omega)]; exact g5 x x0 x1) (fun x x0 x1 => by rw [a 9 x (by omega)]; exact g6 x x0 x1) (by rw [y2, x72]; omega) (fun i i0 i1 => ?_) (fun q q0 q1 => by rw [y1 51 q (by decide) (by decide) (by decide)]; exact hMx q q0 q1) (by rw [a 71 0 (by omega)]; exact g12) (fun i i0 i1 => by rw [a 50 i (by omega)]; exact g13 i i0 i1) (by rw [a 3 0 (by omega)]; exact g14)
              · rcases q with q | q | q | q | q | q
                · exact a b y (by omega)
                · exact a b y (by omega)
                · exact a b y (by omega)
                · exact a b y (by omega)
                · exact pb b y (by omega) (by omega) (by omega) (by omega)
                · exact pb b y (by omega) (by omega) (by omega) (by omega)
              · by_cases hi : i < done.length
                · have h9 := v10 i i0 hi
                  have h10 := kR i i0 hi
                  rw [h9.1, h9.2]
                  omega
                · have h9 := y4 i (by omega)
                  rw [h9.1, h9.2, fx 10 i (by unfold SB; omega), fx 11 i (by unfold SB; omega), kP 10 i (by unfold Pb; omega), kP 11 i (by unfold Pb; omega)]
                  exact g8 i i0 i1
            have hun : allM (B 9 t) (txB B t) (tre B p) (f + 1) z = (match fstM (B 9 t) (txB B t) (tre B p) 0 (B 9 t + 1 - z).toNat z with
              | none => []
              | some (b, o) => (b, o) :: allM (B 9 t) (txB B t) (tre B p) f (if o.1 = b then o.1 + 1 else o.1)) := rfl
            rw [hun] at hl
            refine r_find_76_ok hm ?_
            unfold r_find_76
            rw [k57]
            refine ⟨⟨by omega, by omega⟩, ⟨by omega, by omega⟩, fun hgt => ?_, fun hle2 => ?_⟩
            · have : fstM (B 9 t) (txB B t) (tre B p) 0 (B 9 t + 1 - z).toNat z = none := by rw [show (B 9 t + 1 - z).toNat = 0 by omega]; rfl
              rw [this] at hl
              exact fin Bk (by rw [← hl]; simp) mk (fun _ _ _ => rfl)
            · refine R_nextMatch hm (e := tre B p) pk mk (by rw [kP 59 0 (by omega)]; exact g11) nk z0 z1 (by omega) (by omega) (fun hn B' f' hM' => ⟨_, rfl, ?_⟩) (fun b o hs B' f' hM' hC' ng' p' n72 n12 n13 nO n49 => ⟨_, rfl, ?_⟩)
              · rw [k57, kt] at hn
                rw [hn] at hl
                unfold r_find_89
                refine ⟨⟨by decide, by decide⟩, fun _ => fin B' (by rw [← hl]; simp) hM' f', fun q => absurd rfl q⟩
              · rw [k57, kt] at hs
                rw [hs] at hl
                have hb := fstM_bd _ _ z0 b o hs
                have hbl := bgn_last (l := done) (x := (b, o)) (r := [])
                unfold r_find_89
                refine ⟨⟨by decide, by decide⟩, fun q => absurd q (by decide), fun _ => ?_⟩
                refine qZ.mono (d := d + 1) (R_behindLast hm (b := b) (e := o.1) (by omega) (by omega) (by rw [n72, show Bk 72 0 + 1 - 1 = Bk 72 0 by omega]; exact n12) (by rw [n72, show Bk 72 0 + 1 - 1 = Bk 72 0 by omega]; exact n13) ⟨by omega, by omega⟩ ⟨by omega, by omega⟩ ⟨_, rfl, ?_⟩) (by omega) (fun _ _ q => q)
                unfold r_find_96
                have hz2 : z + 1 ≤ (if o.1 = b then o.1 + 1 else o.1) ∧ (if o.1 = b then o.1 + 1 else o.1) ≤ B 9 t + 1 := by split <;> omega
                have hlen : ((done ++ [(b, o)]).length : Int) = done.length + 1 := by rw [List.length_append, List.length_singleton]; omega
                refine ih (if o.1 = b then o.1 + 1 else o.1) (done ++ [(b, o)]) B' (by omega) (by omega) (by rw [← hl, List.append_assoc]; rfl) (by omega) (by omega) (by omega) p' ng' hM' ((f' 57 0 (by unfold SN; omega)).trans k57) ?_ ((f' 0 0 (by unfold SN; omega)).trans k00) (fun c y q => (f' c y (by unfold Pb at q; unfold SN; omega)).trans (kP c y q)) (by omega) (fun i i0 i1 => ?_) (fun i i0 i1 => ?_)
                · rw [← kt]
                  funext v
                  unfold tB
                  rw [f' 58 0 (by unfold SN; omega), f' 5 _ (by unfold SN; omega)]
                · by_cases hi : i < done.length
                  · rw [(bgn_app i0 hi).1, (bgn_app i0 hi).2, nO 12 i (Or.inl rfl) (by omega), nO 13 i (Or.inr rfl) (by omega)]
                    exact k12 i i0 hi
                  · have : i = done.length := by omega
                    subst this
                    rw [hbl.1, hbl.2]
                    rw [k72] at n12 n13
                    exact ⟨n12, n13⟩
                · by_cases hi : i < done.length
                  · rw [(bgn_app i0 hi).1, (bgn_app i0 hi).2]; exact kR i i0 hi
                  · have : i = done.length := by omega
                    subst this
                    rw [hbl.1, hbl.2]
                    show 0 ≤ b ∧ b ≤ 1000 ∧ 0 ≤ o.1 ∧ o.1 ≤ 1000
                    omega
        have c : ∀ b y, b ≠ 72 → (u2 B1 72 0 0) b y = B1 b y := fun b y q => u2_bank q
        have p2 : PRE (u2 B1 72 0 0) (tre B p) := PRE_fr2 pre (fun b y q => c b y (by omega))
        refine L 1002 0 [] _ (Int.le_refl _) (by omega) rfl (by omega) (by omega) (by simp) p2 (NG_new p2 (fun j j0 j1 => by
          rw [fbit_eq (B := B1) (fun z => c 67 z (by decide))]
          rw [c 56 0 (by decide), c 57 0 (by decide)] at j1
          exact clr j j0 j1)) (fun q q0 q1 => by rw [c 51 q (by decide), fr0 51 q (by unfold PS; omega) (by decide)]; exact g10 q q0 q1) (by rw [c 57 0 (by decide)]; exact e57) (tB_tx (fun y => by rw [c 5 y (by decide)]; exact fr0 5 y (by unfold PS; omega) (by decide)) (by rw [c 58 0 (by decide)]; exact e58)) (by rw [c 0 0 (by decide)]; exact f00) (fun b y q => by rw [c b y (by unfold Pb at q; omega)]; exact fr0 b y (by unfold Pb at q; unfold PS; omega) (by unfold Pb at q; omega)) (by rw [u2_same]; simp) (fun i i0 i1 => by rw [List.length_nil] at i1; omega) (fun i i0 i1 => by rw [List.length_nil] at i1; omega)
      · refine qZ.mono (d := d + 1) (R_refuse hm ⟨_, rfl, ?_⟩) (by omega) (fun _ _ q => q)
        unfold r_find_57
        exact k3 hr h6 (by omega)
      · refine qZ.mono (d := d + 1) (R_refuse hm ⟨_, rfl, ?_⟩) (by omega) (fun _ _ q => q)
        unfold r_find_39
        exact k2 hr h6
    · unfold r_find_16
      exact ⟨⟨by decide, by decide⟩, fun w => absurd rfl w, fun _ => ref (fun w => q w.2)⟩
  · unfold r_find_7
    exact ⟨⟨by decide, by decide⟩, fun _ => ref (fun w => q w.1), fun w => absurd rfl w⟩
end RFIND
