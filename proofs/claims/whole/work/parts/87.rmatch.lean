/-! THE REFERENCE'S CALLS: match -/
section FST
variable (n : Int) (tx : Int → Int) (e : qT)
/-- the first place from s on where there is a way, f places at most -/
def fstM (te : Int) : Nat → Int → Option (Int × (Int × qCp))
  | 0, _ => none
  | f + 1, s => if n < s then none else match mtl n tx e te s with
    | [] => fstM te f (s + 1)
    | o :: _ => some (s, o)
end FST
/-- groups of a match -/
def grp (s : Int) (o : Int × qCp) (i : Int) : Int := if i = 0 then s else if i = 1 then o.1 else o.2 i
/-- what match finds -/
def rsM (n : Int) (tx : Int → Int) (e : qT) (how a : Int) : Option (Int × (Int × qCp)) := if how = 2 then fstM n tx e 0 (n + 1 - a).toNat a else match mtl n tx e (if how = 0 then 1 else 0) (if how = 0 then 0 else a) with
  | [] => none
  | o :: _ => some (if how = 0 then 0 else a, o)
def txB (B : qB) (t : Int) (p : Int) : Int := B 5 (1000 * t + p)
section RMATCH
variable {m : Nat} {h0 : qH} {d : Nat} {B : qB} {Q : qO → qB → Prop}
theorem tB_tx {B B' : qB} {t : Int} (h5 : ∀ y, B' 5 y = B 5 y) (h58 : B' 58 0 = 1000 * t) : tB B' = txB B t := by
  funext p
  unfold tB txB
  rw [h58, h5]
/-- states of a search that goes on -/
def Sx (B B' : qB) : Prop := ∀ b y, (b ≤ 16 ∧ b ≠ 0) ∨ (b = 31 ∧ y < 0) ∨ b = 50 ∨ b = 71 → B' b y = B b y
theorem R_match (hm : m + 100 < 1000000000) {p t how a : Int} (hp : R32 p) (ht : R32 t) (hh : R32 how) (ha : R32 a) (hO : OI B)
    (k1 : ¬ ((0 ≤ p ∧ p ≤ 7) ∧ (0 ≤ t ∧ t ≤ 3) ∧ 0 ≤ how ∧ how ≤ 2) → Q (.inl (some (iv 0))) (u2 B 0 0 1))
    (k2 : ((0 ≤ p ∧ p ≤ 7) ∧ (0 ≤ t ∧ t ≤ 3) ∧ 0 ≤ how ∧ how ≤ 2) → B 6 p = 0 → Q (.inl (some (iv 0))) (u2 B 0 0 2))
    (k3 : ((0 ≤ p ∧ p ≤ 7) ∧ (0 ≤ t ∧ t ≤ 3) ∧ 0 ≤ how ∧ how ≤ 2) → ¬ B 6 p = 0 → 0 < how → ¬ (0 ≤ a ∧ a ≤ B 9 t) → Q (.inl (some (iv 0))) (u2 B 0 0 3))
    (k4 : ((0 ≤ p ∧ p ≤ 7) ∧ (0 ≤ t ∧ t ≤ 3) ∧ 0 ≤ how ∧ how ≤ 2) → ¬ B 6 p = 0 → (0 < how → 0 ≤ a ∧ a ≤ B 9 t) → rsM (B 9 t) (txB B t) (tre B p) how a = none → ∀ B', OI B' → B' 0 0 = 0 → FrS Pb B B' → Q (.inl (some (iv (-1)))) B')
    (k5 : ((0 ≤ p ∧ p ≤ 7) ∧ (0 ≤ t ∧ t ≤ 3) ∧ 0 ≤ how ∧ how ≤ 2) → ¬ B 6 p = 0 → (0 < how → 0 ≤ a ∧ a ≤ B 9 t) → ∀ s o, rsM (B 9 t) (txB B t) (tre B p) how a = some (s, o) → ∀ B', OI B' → B' 0 0 = 0 → (∀ b y, Pb b y → b ≠ 50 → b ≠ 71 → B' b y = B b y) → B' 71 0 = 1 → (∀ i, 0 ≤ i → i < 20 → B' 50 i = grp s o i) → Q (.inl (some (iv o.1))) B') : qZ m h0 (d + 11) k_match 0 [some (.ref m), some (iv p), some (iv t), some (iv how), some (iv a), none, none] [] B Q := by
  have hO0 := hO
  obtain ⟨g1, g2, g3, g4, g5, g6, g7, g8, g9, g10, g11, g12, g13, g14⟩ := hO
  have ref : ¬ ((0 ≤ p ∧ p ≤ 7) ∧ (0 ≤ t ∧ t ≤ 3) ∧ 0 ≤ how ∧ how ≤ 2) → r_match_28 m h0 (d + 10) B Q := by
    intro q
    unfold r_match_28
    refine qZ.mono (d := d + 1) (R_refuse hm ⟨_, rfl, ?_⟩) (by omega) (fun _ _ q => q)
    unfold r_match_33
    exact k1 q
  have main : ((0 ≤ p ∧ p ≤ 7) ∧ (0 ≤ t ∧ t ≤ 3) ∧ 0 ≤ how ∧ how ≤ 2) → ¬ B 6 p = 0 → (0 < how → 0 ≤ a ∧ a ≤ B 9 t) → r_match_74 m h0 (d + 10) p t how a B Q := by
    intro hr h6 har
    have hpp := g4 p hr.1.1 (by omega)
    have hPT := hpp.2.2 (by omega)
    have hn := g6 t hr.2.1.1 (by omega)
    unfold r_match_74
    have b0 : ∀ b y, b ≠ 0 → (u2 B 0 0 0) b y = B b y := fun b y q => u2_bank q
    have ef : sgF (pB (u2 B 0 0 0) p) ((u2 B 0 0 0) 6 p - 1) = sgF (pB B p) (B 6 p - 1) := (tre_fr (fun i _ _ => b0 4 _ (by decide)) (b0 6 p (by decide))).1
    refine qZ.mono (d := d + 9) (R_prepare hm (e := tre B p) (gr := B 8 p) (t := t) hr.1.1 (by omega) (by rw [b0 6 p (by decide)]; omega) (by rw [b0 6 p (by decide)]; exact hpp.2.1) (fun i i0 i1 => by rw [b0 4 i (by decide)]; exact g3 i i0 i1) (fun y hy => by rw [b0 31 y (by decide)]; exact g9 y hy) (by rw [ef]; exact hPT.1) hPT.2.2 hr.2.1.1 (by omega) (by rw [b0 9 t (by decide)]; exact hn.1) (by rw [b0 9 t (by decide)]; exact hn.2) (fun x x0 x1 => by rw [b0 5 x (by decide)]; exact g5 x x0 x1) (fun B1 pre clr e57 e58 fr => ⟨rfl, ?_⟩)) (by omega) (fun _ _ q => q)
    rw [b0 9 t (by decide)] at e57
    have fr0 : ∀ b y, PS b y → b ≠ 0 → B1 b y = B b y := fun b y q q0 => (fr b y q).trans (b0 b y q0)
    have f00 : B1 0 0 = 0 := by rw [fr 0 0 (by unfold PS; omega), u2_same]
    -- toEnd is set
    have go : ∀ te, (te = 0 ∨ te = 1) → (te = 1 ↔ how = 0) → r_match_95 m h0 (d + 10) t how a te B1 Q := by
      intro te hte hteh
      have c : ∀ b y, b ≠ 59 → (u2 B1 59 0 te) b y = B1 b y := fun b y q => u2_bank q
      have c59 : (u2 B1 59 0 te) 59 0 = te := u2_same
      have pre2 : PRE (u2 B1 59 0 te) (tre B p) := by
        obtain ⟨h1, h2, h3, h4, h5, h6, h7, h8, h9, h10, h11⟩ := pre
        refine ⟨?_, by rw [c 42 _ (by decide)]; exact h2, by rw [c 46 0 (by decide)]; exact h3, GI_eq h4 (fun b y q => c b y (by omega)), by rw [c 47 0 (by decide)]; exact h5, by rw [c 48 0 (by decide)]; exact h6, ?_, h8, h9, h10, h11⟩
        · rw [c 48 0 (by decide), c 47 0 (by decide)]
          exact Seg_fr (fun y _ _ => c 52 y (by decide)) (fun y _ _ => c 54 y (by decide)) (fun y _ _ => c 53 y (by decide)) (fun y => c 27 y (by decide)) (Int.le_refl _) (Int.le_refl _) _ 0 [] 0 h8 (fun b y b1 b2 _ _ => c b y (by omega)) h1
        · obtain ⟨t1, t2, t3, t4, t5⟩ := h7
          exact ⟨by rw [c 57 0 (by decide)]; exact t1, by rw [c 57 0 (by decide)]; exact t2, by rw [c 58 0 (by decide)]; exact t3, by rw [c 58 0 (by decide)]; exact t4, fun x x0 x1 => by rw [c 5 x (by decide)]; exact t5 x x0 x1⟩
      have M2 : MR (u2 B1 59 0 te) := fun q q0 q1 => by rw [c 51 q (by decide), fr0 51 q (by unfold PS; omega) (by decide)]; exact g10 q q0 q1
      have e572 : (u2 B1 59 0 te) 57 0 = B 9 t := by rw [c 57 0 (by decide)]; exact e57
      have e582 : (u2 B1 59 0 te) 58 0 = 1000 * t := by rw [c 58 0 (by decide)]; exact e58
      have d0 : ∀ b y, PS b y → b ≠ 0 → b ≠ 59 → (u2 B1 59 0 te) b y = B b y := fun b y q q0 q9 => by rw [c b y q9]; exact fr0 b y q q0
      have d59 : ∀ y, y ≠ 0 → (u2 B1 59 0 te) 59 y = B 59 y := fun y hy => by rw [u2_idx hy]; exact fr0 59 y (by unfold PS; omega) (by decide)
      have d00 : (u2 B1 59 0 te) 0 0 = 0 := by rw [c 0 0 (by decide)]; exact f00
      -- the notes are fresh: they are good for this te too
      have ng2 : NGood (u2 B1 59 0 te) (tre B p) := NG_new pre2 (fun j j0 j1 => by
        rw [fbit_eq (B := B1) (fun z => c 67 z (by decide))]
        rw [c 56 0 (by decide), c 57 0 (by decide)] at j1
        exact clr j j0 j1)
      have et2 : tB (u2 B1 59 0 te) = txB B t := tB_tx (fun y => d0 5 y (by unfold PS; omega) (by decide) (by decide)) e582
      unfold r_match_95
      generalize u2 B1 59 0 te = B2 at *
      -- facts of every memory that the search leaves
      have stt : ∀ Bx, FrS SB B2 Bx → Bx 57 0 = B 9 t ∧ tB Bx = txB B t ∧ Bx 59 0 = te ∧ Bx 9 t = B 9 t ∧ Bx 0 0 = 0 ∧ (∀ b y, Pb b y → Bx b y = B b y) ∧ (∀ y, y < 0 → Bx 31 y = B 31 y) := by
        intro Bx f
        have s : ∀ b y, b ≤ 48 ∨ b = 50 ∨ (52 ≤ b ∧ b ≤ 64) ∨ 71 ≤ b → Bx b y = B2 b y := fun b y q => f b y q
        refine ⟨(s 57 0 (by omega)).trans e572, tB_tx (fun y => (s 5 y (by omega)).trans (d0 5 y (by unfold PS; omega) (by decide) (by decide))) ((s 58 0 (by omega)).trans e582), (s 59 0 (by omega)).trans c59, (s 9 t (by omega)).trans (d0 9 t (by unfold PS; omega) (by decide) (by decide)), (s 0 0 (by omega)).trans d00, fun b y q => (s b y (by unfold Pb at q; omega)).trans (d0 b y (by unfold Pb at q; unfold PS; omega) (by unfold Pb at q; omega) (by unfold Pb at q; omega)), fun y hy => (s 31 y (by omega)).trans (d0 31 y (by unfold PS; omega) (by decide) (by decide))⟩
      have endN : ∀ Bx, FrS SB B2 Bx → MR Bx → rsM (B 9 t) (txB B t) (tre B p) how a = none → r_match_159 m h0 (d + 10) (-1) Bx Q := by
        intro Bx f hMx hres
        obtain ⟨s1, s2, s3, s4, s5, s6, s7⟩ := stt Bx f
        unfold r_match_159
        refine ⟨⟨by decide, by decide⟩, fun q => absurd q (by decide), fun _ => ?_⟩
        refine k4 hr h6 har hres _ (OI_fr hO0 (fun b y q => ?_) (fun q q0 q1 => by rw [u2_bank (by decide)]; exact hMx q q0 q1)) (by rw [u2_bank (by decide)]; exact s5) (fun b y q => by rw [u2_bank (by unfold Pb at q; omega)]; exact s6 b y q)
        rcases q with q | q | q
        · rw [u2_bank (by unfold Pb at q; omega)]; exact s6 b y q
        · rw [q.1, u2_bank (by decide)]; exact s7 y q.2
        · subst q
          by_cases hy : y = 0
          · subst hy; rw [u2_same]; exact g11.symm
          · rw [u2_idx hy, f 59 y (by unfold SB; omega)]
            have : B2 59 y = B 59 y := d59 y hy
            exact this
      have endS : ∀ Bx s o, FrS SB B2 Bx → MR Bx → CR Bx → rsM (B 9 t) (txB B t) (tre B p) how a = some (s, o) → 0 ≤ o.1 → o.1 ≤ 1000 → Bx 49 0 = s → Bx 49 1 = o.1 → (∀ i, 2 ≤ i → i < 20 → Bx 49 i = o.2 i) → r_match_159 m h0 (d + 10) o.1 Bx Q := by
        intro Bx s o f hMx hCx hres o0 o1 c49 c491 c492
        obtain ⟨s1, s2, s3, s4, s5, s6, s7⟩ := stt Bx f
        unfold r_match_159
        refine ⟨⟨by omega, by omega⟩, fun _ => ?_, fun q => by omega⟩
        have v49 : ∀ i, 0 ≤ i → i < 20 → Bx 49 i = grp s o i := by
          intro i i0 i1
          unfold grp
          by_cases q0 : i = 0
          · rw [if_pos q0, q0]; exact c49
          · rw [if_neg q0]
            by_cases q1 : i = 1
            · rw [if_pos q1, q1]; exact c491
            · rw [if_neg q1]; exact c492 i (by omega) i1
        have L : ∀ (N : Nat) (x : Int) (Bk : qB), 0 ≤ x → x + N = 20 → (∀ b y, b ≠ 50 → Bk b y = (u2 Bx 59 0 0) b y) → (∀ i, 0 ≤ i → i < x → Bk 50 i = grp s o i) → qZ m h0 (d + 11) k_match 174 [some (.ref m), none, none, none, none, some (iv o.1), some (iv x)] [] Bk Q := by
          intro N
          induction N with
          | zero =>
            intro x Bk x0 hx e1 e2
            have hx' : x = 20 := by omega
            subst hx'
            refine r_match_174_ok hm ?_
            unfold r_match_174
            refine ⟨⟨by decide, by decide⟩, fun _ => ?_, fun q => absurd q (by decide)⟩
            have al : ∀ b y, b ≠ 50 → b ≠ 71 → (u2 Bk 71 0 1) b y = (u2 Bx 59 0 0) b y := fun b y q1 q2 => by rw [u2_bank q2]; exact e1 b y q1
            have l50 : ∀ i, 0 ≤ i → i < 20 → (u2 Bk 71 0 1) 50 i = grp s o i := fun i i0 i1 => by rw [u2_bank (by decide)]; exact e2 i i0 i1
            have l71 : (u2 Bk 71 0 1) 71 0 = 1 := u2_same
            generalize u2 Bk 71 0 1 = Bz at *
            have pb : ∀ b y, Pb b y → b ≠ 50 → b ≠ 71 → Bz b y = B b y := fun b y q n1 n2 => by rw [al b y n1 n2, u2_bank (by unfold Pb at q; omega)]; exact s6 b y q
            refine k5 hr h6 har s o hres Bz ?_ (by rw [al 0 0 (by decide) (by decide), u2_bank (by decide)]; exact s5) pb l71 l50
            have a' : ∀ b y, (1 ≤ b ∧ b ≤ 11) ∨ b = 14 → Bz b y = B b y := fun b y q => pb b y (by unfold Pb; omega) (by omega) (by omega)
            refine OI_gen hO0 (fun b y q => ?_) (by rw [a' 2 0 (by omega)]; exact g1) (fun i i0 i1 => by rw [a' 1 i (by omega)]; exact g2 i i0 i1) (fun x x0 x1 => by rw [a' 5 x (by omega)]; exact g5 x x0 x1) (fun x x0 x1 => by rw [a' 9 x (by omega)]; exact g6 x x0 x1) (by rw [a' 14 0 (by omega)]; exact g7) (fun i i0 i1 => by rw [a' 10 i (by omega), a' 11 i (by omega)]; exact g8 i i0 i1) (fun q q0 q1 => by rw [al 51 q (by decide) (by decide), u2_bank (by decide)]; exact hMx q q0 q1) (Or.inr l71) (fun i i0 i1 => by rw [l50 i i0 i1, ← v49 i i0 i1]; exact hCx i i0 i1) (by rw [a' 3 0 (by omega)]; exact g14)
            rcases q with q | q | q | q | q | q
            · exact a' b y (by omega)
            · exact a' b y (by omega)
            · exact a' b y (by omega)
            · exact a' b y (by omega)
            · subst q
              rw [al 59 y (by decide) (by decide)]
              by_cases hy : y = 0
              · subst hy; rw [u2_same]; exact g11.symm
              · rw [u2_idx hy, f 59 y (by unfold SB; omega)]; exact d59 y hy
            · rw [q.1, al 31 y (by decide) (by decide), u2_bank (by decide)]; exact s7 y q.2
          | succ N ih =>
            intro x Bk x0 hx e1 e2
            refine r_match_174_ok hm ?_
            unfold r_match_174
            refine ⟨⟨by omega, by omega⟩, fun q => by omega, fun _ => ⟨x0, by omega, ih (x + 1) _ (by omega) (by omega) (fun b y q => by rw [u2_bank q]; exact e1 b y q) (fun i i0 i1 => ?_)⟩⟩
            by_cases e9 : i = x
            · subst e9; rw [u2_same, e1 49 i (by decide), u2_bank (by decide)]; exact v49 i i0 (by omega)
            · rw [u2_idx e9]; exact e2 i i0 (by omega)
        exact L 20 0 _ (Int.le_refl _) (by omega) (fun _ _ _ => rfl) (fun i i0 i1 => by omega)
      refine ⟨hte, hh, fun hge => ?_, fun hlt => ?_⟩
      · have h2 : how = 2 := by omega
        have hte0 : te = 0 := by omega
        have har' := har (by omega)
        have L : ∀ (N : Nat) (x : Int) (Bk : qB), 0 ≤ x → (B 9 t + 1 - x).toNat = N → FrS SB B2 Bk → MR Bk → NGood Bk (tre B p) → fstM (B 9 t) (txB B t) (tre B p) 0 N x = rsM (B 9 t) (txB B t) (tre B p) how a → x ≤ 1001 → qZ m h0 (d + 11) k_match 129 [some (.ref m), none, some (iv t), none, none, some (iv (-1)), some (iv x)] [] Bk Q := by
          intro N
          induction N with
          | zero =>
            intro x Bk x0 hN f hMx ngx hres hx1
            obtain ⟨s1, s2, s3, s4, s5, s6, s7⟩ := stt Bk f
            refine r_match_129_ok hm ?_
            unfold r_match_129
            rw [s4]
            refine ⟨hr.2.1.1, by omega, ⟨by omega, by omega⟩, ⟨by omega, by omega⟩, fun _ => endN Bk f hMx hres.symm, fun q => by omega⟩
          | succ N ih =>
            intro x Bk x0 hN f hMx ngx hres hx1
            obtain ⟨s1, s2, s3, s4, s5, s6, s7⟩ := stt Bk f
            refine r_match_129_ok hm ?_
            unfold r_match_129
            rw [s4]
            refine ⟨hr.2.1.1, by omega, ⟨by omega, by omega⟩, ⟨by omega, by omega⟩, fun q => by omega, fun _ => ⟨⟨by decide, by decide⟩, fun q => absurd q (by decide), fun _ => ?_⟩⟩
            have hres' : (if B 9 t < x then none else match mtl (B 9 t) (txB B t) (tre B p) 0 x with
                | [] => fstM (B 9 t) (txB B t) (tre B p) 0 N (x + 1)
                | o :: _ => some (x, o)) = rsM (B 9 t) (txB B t) (tre B p) how a := hres
            rw [if_neg (by omega)] at hres'
            refine R_tryAt hm (e := tre B p) (PRE_fr pre2 f) hMx (by rw [s3]; exact hte) x0 (by rw [s1]; omega) ngx (fun hn B' f' hM' ng' => ⟨_, rfl, ?_⟩) (fun o r hl B' f' hM' hC' o0 o1 c49 c491 c492 => ⟨_, rfl, ?_⟩)
            · rw [s1, s2, s3, hte0] at hn
              rw [hn] at hres'
              unfold r_match_151
              exact ih (x + 1) B' (by omega) (by omega) (FrS.trans f f' (fun _ _ q => q)) hM' ng' hres' (by omega)
            · rw [s1, s2, s3, hte0] at hl
              rw [hl] at hres'
              rw [s1] at o1
              have f2 : FrS SB B2 B' := FrS.trans f f' (fun _ _ q => q)
              have fin := endS B' x o f2 hM' hC' hres'.symm (by omega) (by omega) c49 c491 c492
              obtain ⟨z1, z2, z3, z4, z5, z6, z7⟩ := stt B' f2
              unfold r_match_151
              refine r_match_129_ok hm ?_
              unfold r_match_129
              rw [z4]
              exact ⟨hr.2.1.1, by omega, ⟨by omega, by omega⟩, ⟨by omega, by omega⟩, fun _ => fin, fun _ => ⟨⟨by omega, by omega⟩, fun _ => fin, fun q => by omega⟩⟩
        refine L (B 9 t + 1 - a).toNat a B2 har'.1 rfl FrS.refl M2 ng2 ?_ (by omega)
        unfold rsM
        rw [if_pos h2]
      · have once : ∀ x, x = (if how = 0 then 0 else a) → 0 ≤ x → x ≤ B 9 t → r_match_117 m h0 (d + 10) x B2 Q := by
          intro x hx x0 x1
          unfold r_match_117
          have hres : rsM (B 9 t) (txB B t) (tre B p) how a = match mtl (B 9 t) (txB B t) (tre B p) te x with
              | [] => none
              | o :: _ => some (x, o) := by
            unfold rsM
            rw [if_neg (by omega), ← hx]
            have : (if how = 0 then (1 : Int) else 0) = te := by
              by_cases hz : how = 0
              · rw [if_pos hz]; exact (hteh.mpr hz).symm
              · rw [if_neg hz]
                rcases hte with q | q
                · exact q.symm
                · exact absurd (hteh.mp q) hz
            rw [this]
          refine R_tryAt hm (e := tre B p) pre2 M2 (by rw [c59]; exact hte) x0 (by rw [e572]; exact x1) ng2 (fun hn B' f' hM' ng' => ⟨_, rfl, ?_⟩) (fun o r hl B' f' hM' hC' o0 o1 c49 c491 c492 => ⟨_, rfl, ?_⟩)
          · rw [e572, et2, c59] at hn
            rw [hn] at hres
            unfold r_match_120
            exact endN B' f' hM' hres
          · rw [e572, et2, c59] at hl
            rw [hl] at hres
            rw [e572] at o1
            unfold r_match_120
            exact endS B' x o f' hM' hC' hres (by omega) (by omega) c49 c491 c492
        refine ⟨fun z => once a (by rw [if_neg z]) (har (by omega)).1 (har (by omega)).2, fun z => once 0 (by rw [if_pos z]) (Int.le_refl _) hn.1⟩
    unfold r_match_85
    exact ⟨hh, fun z => go 0 (Or.inl rfl) ⟨fun q => absurd q (by decide), fun q => absurd q z⟩, fun z => go 1 (Or.inr rfl) ⟨fun _ => z, fun _ => rfl⟩⟩
  refine r_match_0_ok hm ?_
  unfold r_match_0
  refine qZ.mono (d := d + 1) (R_in2 hm hp ⟨by decide, by decide⟩ ⟨by decide, by decide⟩ (fun q1 q2 => ⟨_, rfl, ?_⟩) (fun q => ⟨_, rfl, ?_⟩)) (by omega) (fun _ _ q => q)
  · unfold r_match_7
    refine ⟨⟨by decide, by decide⟩, fun q => absurd q (by decide), fun _ => ?_⟩
    refine qZ.mono (d := d + 1) (R_in2 hm ht ⟨by decide, by decide⟩ ⟨by decide, by decide⟩ (fun q3 q4 => ⟨_, rfl, ?_⟩) (fun q => ⟨_, rfl, ?_⟩)) (by omega) (fun _ _ q => q)
    · unfold r_match_16
      refine ⟨⟨by decide, by decide⟩, fun q => absurd q (by decide), fun _ => ?_⟩
      refine qZ.mono (d := d + 1) (R_in2 hm hh ⟨by decide, by decide⟩ ⟨by decide, by decide⟩ (fun q5 q6 => ⟨_, rfl, ?_⟩) (fun q => ⟨_, rfl, ?_⟩)) (by omega) (fun _ _ q => q)
      · have hr : ((0 ≤ p ∧ p ≤ 7) ∧ (0 ≤ t ∧ t ≤ 3) ∧ 0 ≤ how ∧ how ≤ 2) := ⟨⟨q1, q2⟩, ⟨q3, q4⟩, q5, q6⟩
        have hpp := g4 p q1 (by omega)
        have hn := g6 t q3 (by omega)
        unfold r_match_25
        refine ⟨⟨by decide, by decide⟩, fun _ => ⟨q1, by omega, ⟨by omega, by omega⟩, fun h6 => ⟨hh, fun hz => main hr h6 (fun q => by omega), fun hz => ⟨q3, by omega, ?_⟩⟩, fun h6 => ?_⟩, fun q => absurd q (by decide)⟩
        · refine qZ.mono (d := d + 1) (R_in2 hm ha ⟨by decide, by decide⟩ ⟨by omega, by omega⟩ (fun q7 q8 => ⟨_, rfl, ?_⟩) (fun q => ⟨_, rfl, ?_⟩)) (by omega) (fun _ _ q => q)
          · unfold r_match_65
            exact ⟨⟨by decide, by decide⟩, fun _ => main hr h6 (fun _ => ⟨q7, q8⟩), fun q => absurd q (by decide)⟩
          · unfold r_match_65
            refine ⟨⟨by decide, by decide⟩, fun w => absurd rfl w, fun _ => ?_⟩
            refine qZ.mono (d := d + 1) (R_refuse hm ⟨_, rfl, ?_⟩) (by omega) (fun _ _ q => q)
            unfold r_match_73
            exact k3 hr h6 (by omega) q
        · refine qZ.mono (d := d + 1) (R_refuse hm ⟨_, rfl, ?_⟩) (by omega) (fun _ _ q => q)
          unfold r_match_48
          exact k2 hr h6
      · unfold r_match_25
        exact ⟨⟨by decide, by decide⟩, fun w => absurd rfl w, fun _ => ref (fun w => q w.2.2)⟩
    · unfold r_match_16
      exact ⟨⟨by decide, by decide⟩, fun _ => ref (fun w => q w.2.1), fun w => absurd rfl w⟩
  · unfold r_match_7
    exact ⟨⟨by decide, by decide⟩, fun _ => ref (fun w => q w.1), fun w => absurd rfl w⟩
end RMATCH
