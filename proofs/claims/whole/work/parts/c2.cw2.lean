/-! THE CLASS'S WALKER: the ways that the program of a tree has -/
def LFd (d : Int) (D : Int → qCp → qWs) (K : qK) : qK := fun p u c => (D p c).flatMap (fun o => K o.1 (if o.1 = p then u else d) o.2)
theorem LFd_fm {n d : Int} {D E : Int → qCp → qWs} {K : qK} (hD : Rg n D) (hE : Rg n E) {p u : Int} {c : qCp} (h0 : 0 ≤ p) (h1 : p ≤ n) : LFd d (fun p c => (D p c).flatMap (fun o => E o.1 o.2)) K p u c = LFd d D (LFd d E K) p u c := by
  show ((D p c).flatMap (fun o => E o.1 o.2)).flatMap (fun o => K o.1 (if o.1 = p then u else d) o.2) = (D p c).flatMap (fun o => (E o.1 o.2).flatMap (fun o' => K o'.1 (if o'.1 = o.1 then (if o.1 = p then u else d) else d) o'.2))
  rw [List.flatMap_assoc]
  apply fm_eq
  intro o ho
  have hr := hD p c h0 h1 o ho
  apply fm_eq
  intro o' ho'
  have hr' := hE o.1 o.2 (by omega) hr.2 o' ho'
  have e : (if o'.1 = p then u else d) = (if o'.1 = o.1 then (if o.1 = p then u else d) else d) := by
    by_cases e : o'.1 = p
    · rw [if_pos e, if_pos (by omega), if_pos (by omega)]
    · rw [if_neg e]
      by_cases e2 : o'.1 = o.1
      · rw [if_pos e2, if_neg (by omega)]
      · rw [if_neg e2]
  rw [e]
theorem LFd_one {d : Int} {D : Int → qCp → qWs} {K : qK} {p u : Int} {c : qCp} (h : D p c = [(p, c)]) : LFd d D K p u c = K p u c := by
  unfold LFd
  rw [h]
  simp only [List.flatMap_cons, List.flatMap_nil, List.append_nil]
  rw [if_pos trivial]
/-- how a tree stands: 0 a row, 1 ways, 2 a part -/
def shq : qT → Int → Prop
  | .num k, m => if m = 2 then k ≠ 0 else k = 0
  | .var _, m => m = 2
  | .add a b, m => m ≠ 2 ∧ shq b 2 ∧ shq a 0
  | .sub a b, m => m = 1 ∧ shq b 0 ∧ shq a 1
  | .neg a, m => m = 2 ∧ shq a 1
  | .mulL _ a, m => m = 2 ∧ shq a 1
  | .mulR a _, m => m = 2 ∧ shq a 2
theorem Nd_shq {B : qB} {M : Int} : ∀ (e : qT) (N m q : Int), Nd B M e N m q → shq e m := by
  intro e
  induction e with
  | num k =>
    intro N m q h
    unfold Nd at h
    unfold shq
    by_cases hm : m = 2
    · rw [if_pos hm] at h ⊢; exact h.1
    · rw [if_neg hm] at h ⊢; exact h.1
  | var s => intro N m q h; exact h.1
  | add a b ha hb => intro N m q h; exact ⟨h.1, hb _ _ _ h.2.2.1, ha _ _ _ h.2.2.2⟩
  | sub a b ha hb => intro N m q h; exact ⟨h.1, hb _ _ _ h.2.2.2.1, ha _ _ _ h.2.2.2.2⟩
  | neg a ha => intro N m q h; exact ⟨h.1, ha _ _ _ h.2.2.2⟩
  | mulL k a ha => intro N m q h; exact ⟨h.1, ha _ _ _ h.2.2.2.2⟩
  | mulR a k ha => intro N m q h; exact ⟨h.1, ha _ _ _ h.2.2.2.2.2.2⟩
/-! room on the pile, and steps without a slot -/
def zbe : qT → Int
  | .num _ => 0
  | .var _ => 0
  | .add a b => zbe a + zbe b
  | .sub a b => zbe a + zbe b + 1
  | .neg a => zbe a
  | .mulL k a => if 1 ≤ k then zbe a + 2 else 1 + (sl a).length
  | .mulR a k => if rg k = 2 then 1 + (sl (.mulR a k)).length else rl k * zbe a + (if rh k < 0 then 1 else (rh k - rl k) * (zbe a + 1))
def zal : qT → Int
  | .num _ => 0
  | .var _ => 0
  | .add a b => zal a + zal b
  | .sub a b => zal a + zal b
  | .neg a => zal a
  | .mulL _ a => zal a
  | .mulR a k => rl k * zal a + (if rh k < 0 then zal a + zbe a + 1 else (rh k - rl k) * zal a)
def zzz : qT → Int
  | .num _ => 0
  | .var _ => 0
  | .add a b => zzz a + zzz b
  | .sub a b => zzz a + zzz b + 1
  | .neg a => zzz a
  | .mulL k a => if 1 ≤ k then zzz a + 2 else 1 + (sl a).length + zzz a
  | .mulR a k => (if rg k = 2 then 1 + ((sl (.mulR a k)).length : Int) else 0) + (rl k * zzz a + (if rh k < 0 then zzz a + 1 else (rh k - rl k) * (zzz a + 1)))
def znb : qT → Int
  | .num k => if k = 0 then 0 else 1
  | .var _ => 1
  | .add a b => znb a + znb b
  | .sub a b => znb a + znb b
  | .neg a => znb a
  | .mulL k a => if 1 ≤ k then znb a + 2 else znb a
  | .mulR a k => rl k * znb a + (if rh k < 0 then znb a else (rh k - rl k) * znb a)
theorem zal_R {a : qT} {k : Int} : zal (.mulR a k) = rl k * zal a + (if rh k < 0 then zal a + zbe a + 1 else (rh k - rl k) * zal a) := rfl
theorem zbe_R {a : qT} {k : Int} : zbe (.mulR a k) = if rg k = 2 then 1 + ((sl (.mulR a k)).length : Int) else rl k * zbe a + (if rh k < 0 then 1 else (rh k - rl k) * (zbe a + 1)) := rfl
theorem zzz_R {a : qT} {k : Int} : zzz (.mulR a k) = (if rg k = 2 then 1 + ((sl (.mulR a k)).length : Int) else 0) + (rl k * zzz a + (if rh k < 0 then zzz a + 1 else (rh k - rl k) * (zzz a + 1))) := rfl
theorem znb_R {a : qT} {k : Int} : znb (.mulR a k) = rl k * znb a + (if rh k < 0 then znb a else (rh k - rl k) * znb a) := rfl
theorem z_nn : ∀ e : qT, wf e → 0 ≤ zal e ∧ 0 ≤ zbe e ∧ zbe e ≤ zzz e ∧ 0 ≤ znb e := by
  intro e
  induction e with
  | num k => intro _; unfold zal zbe zzz znb; split <;> omega
  | var _ => intro _; unfold zal zbe zzz znb; omega
  | add a b h1 h2 => intro h; have := h1 h.1; have := h2 h.2; unfold zal zbe zzz znb; omega
  | sub a b h1 h2 => intro h; have := h1 h.1; have := h2 h.2; unfold zal zbe zzz znb; omega
  | neg a h1 => intro h; have := h1 h; unfold zal zbe zzz znb; omega
  | mulL k a h1 => intro h; have := h1 h.2.2; unfold zal zbe zzz znb; split <;> omega
  | mulR a k h1 =>
    intro h
    obtain ⟨g1, g2, g3, g4, g5, g6, g7⟩ := h
    obtain ⟨a1, a2, a3, a4⟩ := h1 g7
    have m1 : 0 ≤ rl k * zal a := Int.mul_nonneg g1 a1
    have m2 : 0 ≤ rl k * zbe a := Int.mul_nonneg g1 a2
    have m3 : rl k * zbe a ≤ rl k * zzz a := Int.mul_le_mul_of_nonneg_left a3 g1
    have m4 : 0 ≤ rl k * znb a := Int.mul_nonneg g1 a4
    rw [zal_R, zbe_R, zzz_R, znb_R]
    by_cases hh : rh k < 0
    · simp only [if_pos hh]
      split <;> omega
    · simp only [if_neg hh]
      have hn : 0 ≤ rh k - rl k := by omega
      have n1 : 0 ≤ (rh k - rl k) * zal a := Int.mul_nonneg hn a1
      have n2 : 0 ≤ (rh k - rl k) * (zbe a + 1) := Int.mul_nonneg hn (by omega)
      have n3 : (rh k - rl k) * (zbe a + 1) ≤ (rh k - rl k) * (zzz a + 1) := Int.mul_le_mul_of_nonneg_left (by omega) hn
      have n4 : 0 ≤ (rh k - rl k) * znb a := Int.mul_nonneg hn a4
      split <;> omega
theorem sd_ge : ∀ e : qT, -1 ≤ sd e := by
  intro e
  induction e with
  | num _ => unfold sd; omega
  | var _ => unfold sd; omega
  | add a b h1 h2 => unfold sd; omega
  | sub a b h1 h2 => unfold sd; omega
  | neg a h1 => exact h1
  | mulL k a h1 => unfold sd; split <;> omega
  | mulR a k h1 => unfold sd; omega
theorem z_R {a b z m k : Int} (x : 0 ≤ a ∧ 0 ≤ b ∧ b ≤ z ∧ 0 ≤ m) (h1 : 0 ≤ rl k) (h2 : rh k < 0 ∨ rl k ≤ rh k) : 0 ≤ rl k * a + (if rh k < 0 then a + b + 1 else (rh k - rl k) * a) ∧ 0 ≤ rl k * b + (if rh k < 0 then 1 else (rh k - rl k) * (b + 1)) ∧ rl k * b + (if rh k < 0 then 1 else (rh k - rl k) * (b + 1)) ≤ rl k * z + (if rh k < 0 then z + 1 else (rh k - rl k) * (z + 1)) ∧ 0 ≤ rl k * m + (if rh k < 0 then m else (rh k - rl k) * m) := by
  obtain ⟨a1, a2, a3, a4⟩ := x
  have m1 : 0 ≤ rl k * a := Int.mul_nonneg h1 a1
  have m2 : 0 ≤ rl k * b := Int.mul_nonneg h1 a2
  have m3 : rl k * b ≤ rl k * z := Int.mul_le_mul_of_nonneg_left a3 h1
  have m4 : 0 ≤ rl k * m := Int.mul_nonneg h1 a4
  by_cases hh : rh k < 0
  · simp only [if_pos hh]
    omega
  · simp only [if_neg hh]
    have hn : 0 ≤ rh k - rl k := by omega
    have n1 : 0 ≤ (rh k - rl k) * a := Int.mul_nonneg hn a1
    have n2 : 0 ≤ (rh k - rl k) * (b + 1) := Int.mul_nonneg hn (by omega)
    have n3 : (rh k - rl k) * (b + 1) ≤ (rh k - rl k) * (z + 1) := Int.mul_le_mul_of_nonneg_left (by omega) hn
    have n4 : 0 ≤ (rh k - rl k) * m := Int.mul_nonneg hn a4
    omega
section EVL
variable (n : Int) (tx : Int → Int) (te : Int) (P : qP) (H : Int → Nat → Option Bool) (Mx Cm : Int)
def Sg (lv : Int) (S : List Int) (s nx d al be z nb : Int) (D : Int → qCp → qWs) : Prop := ∀ (p u r cK : Int) (K : qK), 0 ≤ p → p ≤ n → 0 ≤ u → u ≤ d → 2 ≤ cK → nb + cK ≤ Cm → al * (n - p) + z ≤ r → (∀ q, p ≤ q → q ≤ n → Ev n tx te P H Mx lv S nx q (if q = p then u else d) (r - al * (q - p) - be) cK (K q (if q = p then u else d))) → Ev n tx te P H Mx lv S s p u r (nb + cK) (LFd d D K p u)
def SgA (lv : Int) (S : List Int) (s nx d alt al be z nb : Int) (D : Int → qCp → qWs) : Prop := ∀ (p u r cK ca : Int) (K : qK) (A : qCp → qWs), 0 ≤ p → p ≤ n → 0 ≤ u → u ≤ d → 2 ≤ cK → nb + cK ≤ Cm → ca ≤ Cm → al * (n - p) + z + 1 ≤ r → (∀ q, p ≤ q → q ≤ n → Ev n tx te P H Mx lv S nx q (if q = p then u else d) (r - al * (q - p) - be - 1) cK (K q (if q = p then u else d))) → Ev n tx te P H Mx lv S alt p u (r - be - 1) ca A → Ev n tx te P H Mx lv S s p u r (nb + cK) (fun c => LFd d D K p u c ++ A c)
variable {n tx te P H Mx Cm}
variable {lv : Int} {S : List Int} {s nx d : Int}
theorem Sg_nil : Sg n tx te P H Mx Cm lv S s s d 0 0 0 0 (fun p c => [(p, c)]) := by
  intro p u r cK K p0 p1 u0 u1 hc hC hr hK
  have h := hK p (Int.le_refl _) p1
  rw [if_pos rfl] at h
  exact (h.mono (by omega) (by omega)).eq (fun c => (LFd_one rfl).symm)
theorem Sg.mono {al be z nb al' be' z' nb' : Int} {D : Int → qCp → qWs} (h : Sg n tx te P H Mx Cm lv S s nx d al be z nb D) (h1 : al ≤ al') (h2 : be ≤ be') (h3 : z ≤ z') (h4 : nb ≤ nb') : Sg n tx te P H Mx Cm lv S s nx d al' be' z' nb' D := by
  intro p u r cK K p0 p1 u0 u1 hc hC hr hK
  have m1 : al * (n - p) ≤ al' * (n - p) := Int.mul_le_mul_of_nonneg_right h1 (by omega)
  refine (h p u r cK K p0 p1 u0 u1 hc (by omega) (by omega) (fun q q0 q1 => (hK q q0 q1).mono ?_ (Int.le_refl _))).mono (Int.le_refl _) (by omega)
  have m2 : al * (q - p) ≤ al' * (q - p) := Int.mul_le_mul_of_nonneg_right h1 (by omega)
  omega
theorem Sg.eq {al be z nb : Int} {D D' : Int → qCp → qWs} (h : Sg n tx te P H Mx Cm lv S s nx d al be z nb D) (hD : ∀ p c, 0 ≤ p → p ≤ n → D' p c = D p c) : Sg n tx te P H Mx Cm lv S s nx d al be z nb D' := by
  intro p u r cK K p0 p1 u0 u1 hc hC hr hK
  refine (h p u r cK K p0 p1 u0 u1 hc hC hr hK).eq (fun c => ?_)
  unfold LFd
  rw [hD p c p0 p1]
theorem Sg_add {t a1 b1 z1 n1 a2 b2 z2 n2 : Int} {D E : Int → qCp → qWs} (hD : Rg n D) (hE : Rg n E) (x1 : 0 ≤ a1 ∧ 0 ≤ b1 ∧ b1 ≤ z1 ∧ 0 ≤ n1) (x2 : 0 ≤ a2 ∧ 0 ≤ b2 ∧ b2 ≤ z2 ∧ 0 ≤ n2) (h : Sg n tx te P H Mx Cm lv S s t d a1 b1 z1 n1 D) (g : Sg n tx te P H Mx Cm lv S t nx d a2 b2 z2 n2 E) : Sg n tx te P H Mx Cm lv S s nx d (a1 + a2) (b1 + b2) (z1 + z2) (n1 + n2) (fun p c => (D p c).flatMap (fun o => E o.1 o.2)) := by
  intro p u r cK K p0 p1 u0 u1 hc hC hr hK
  have e1 := Int.add_mul a1 a2 (n - p)
  have m2 : 0 ≤ a2 * (n - p) := Int.mul_nonneg x2.1 (by omega)
  have key := h p u r (n2 + cK) (LFd d E K) p0 p1 u0 u1 (by omega) (by omega) (by omega) (fun q q0 q1 => ?_)
  · refine (key.mono (Int.le_refl _) (by omega)).eq (fun c => (LFd_fm hD hE p0 p1).symm)
  · have m3 : a1 * (q - p) ≤ a1 * (n - p) := Int.mul_le_mul_of_nonneg_left (by omega) x1.1
    have m4 : a2 * (n - q) ≤ a2 * (n - p) := Int.mul_le_mul_of_nonneg_left (by omega) x2.1
    have hu : 0 ≤ (if q = p then u else d) ∧ (if q = p then u else d) ≤ d := by split <;> omega
    refine g q (if q = p then u else d) _ cK K (by omega) q1 hu.1 hu.2 hc (by omega) (by omega) (fun q' r0 r1 => ?_)
    have := hK q' (by omega) r1
    have e : (if q' = p then u else d) = (if q' = q then (if q = p then u else d) else d) := by
      by_cases e : q' = p
      · rw [if_pos e, if_pos (by omega), if_pos (by omega)]
      · rw [if_neg e]
        by_cases e2 : q' = q
        · rw [if_pos e2, if_neg (by omega)]
        · rw [if_neg e2]
    rw [e] at this
    refine this.mono ?_ (Int.le_refl _)
    have e2 := Int.add_mul a1 a2 (q' - p)
    have m5 : a1 * (q - p) ≤ a1 * (q' - p) := Int.mul_le_mul_of_nonneg_left (by omega) x1.1
    have m6 : a2 * (q' - q) ≤ a2 * (q' - p) := Int.mul_le_mul_of_nonneg_left (by omega) x2.1
    omega
theorem sp_ok {N0 N k x y : Int} (h : spl P N0 N lv s k x y d) (h0 : 1 ≤ N0) (h1 : N ≤ P 0 7) : 1 ≤ s ∧ s < P 0 7 ∧ P 7 s = lv := by
  obtain ⟨-, -, -, -, a, b, c⟩ := h
  exact ⟨by omega, by omega, a⟩
theorem st_ok {N0 N k x : Int} (h : stp P N0 N lv s k x d) (h0 : 1 ≤ N0) (h1 : N ≤ P 0 7) : 1 ≤ s ∧ s < P 0 7 ∧ P 7 s = lv := by
  obtain ⟨-, -, -, a, b, c⟩ := h
  exact ⟨by omega, by omega, a⟩
theorem Sg_it {al be z nb : Int} {D : Int → qCp → qWs} {R : Int → Int → Prop} (hD : Rg n D) (x1 : 0 ≤ al ∧ 0 ≤ be ∧ be ≤ z ∧ 0 ≤ nb) (hR : ∀ s t, R s t → Sg n tx te P H Mx Cm lv S s t d al be z nb D) : ∀ (k : Nat) (s : Int), LyIt R k s nx → Sg n tx te P H Mx Cm lv S s nx d (k * al) (k * be) (k * z) (k * nb) (itr D k) := by
  intro k
  induction k with
  | zero =>
    intro s h
    have h' : s = nx := h
    subst h'
    have := Sg_nil (n := n) (tx := tx) (te := te) (P := P) (H := H) (Mx := Mx) (Cm := Cm) (lv := lv) (S := S) (s := s) (d := d)
    refine (this.eq (fun p c _ _ => rfl)).mono ?_ ?_ ?_ ?_ <;> simp
  | succ k ih =>
    intro s h
    obtain ⟨t, h1, h2⟩ := h
    have k0 : (0 : Int) ≤ (k : Int) := by omega
    have := Sg_add hD (Rg_itr hD k) x1 ⟨Int.mul_nonneg k0 x1.1, Int.mul_nonneg k0 x1.2.1, Int.mul_le_mul_of_nonneg_left x1.2.2.1 k0, Int.mul_nonneg k0 x1.2.2.2⟩ (hR s t h1) (ih t h2)
    have c : ∀ y : Int, ((k + 1 : Nat) : Int) * y = y + k * y := fun y => by rw [Int.natCast_add, Int.add_mul]; omega
    rw [c al, c be, c z, c nb]
    exact this
theorem Sg_opt {al be z nb N0 N : Int} {lz : Bool} {D : Int → qCp → qWs} {R : Int → Int → Prop} (h0 : 1 ≤ N0) (h1 : N ≤ P 0 7) (hd : d ≤ 11) (hM : 2 * Cm ≤ Mx) (hD : Rg n D) (x1 : 0 ≤ al ∧ 0 ≤ be ∧ be ≤ z ∧ 0 ≤ nb) (hR : ∀ s t, R s t → Sg n tx te P H Mx Cm lv S s t d al be z nb D) : ∀ (k : Nat) (s : Int), LyO P N0 N lv R lz nx d k s → Sg n tx te P H Mx Cm lv S s nx d (k * al) (k * (be + 1)) (k * (z + 1)) (k * nb) (opt lz D k) := by
  intro k
  induction k with
  | zero =>
    intro s h
    have h' : s = nx := h
    subst h'
    have := Sg_nil (n := n) (tx := tx) (te := te) (P := P) (H := H) (Mx := Mx) (Cm := Cm) (lv := lv) (S := S) (s := s) (d := d)
    refine (this.eq (fun p c _ _ => rfl)).mono ?_ ?_ ?_ ?_ <;> simp
  | succ k ih =>
    intro s h
    obtain ⟨b, t, g1, g2, g3⟩ := h
    have k0 : (0 : Int) ≤ (k : Int) := by omega
    have y1 : 0 ≤ (k : Int) * al := Int.mul_nonneg k0 x1.1
    have y2 : 0 ≤ (k : Int) * (be + 1) := Int.mul_nonneg k0 (by omega)
    have y3 : (k : Int) * (be + 1) ≤ k * (z + 1) := Int.mul_le_mul_of_nonneg_left (by omega) k0
    have y4 : 0 ≤ (k : Int) * nb := Int.mul_nonneg k0 x1.2.2.2
    have hb := Sg_add hD (Rg_opt hD lz k) x1 ⟨y1, y2, y3, y4⟩ (hR b t g2) (ih t g3)
    have c : ∀ y : Int, ((k + 1 : Nat) : Int) * y = y + k * y := fun y => by rw [Int.natCast_add, Int.add_mul]; omega
    rw [c al, c (be + 1), c (z + 1), c nb]
    intro p u r cK K p0 p1 u0 u1 hc hC hr hK
    have m1 : 0 ≤ (al + k * al) * (n - p) := Int.mul_nonneg (by omega) (by omega)
    have ob := sp_ok g1 h0 h1
    obtain ⟨w1, w2, w3, -⟩ := g1
    have B1 := hb p u (r - 1) cK K p0 p1 u0 u1 hc (by omega) (by omega) (fun q q0 q1 => (hK q q0 q1).mono (by omega) (Int.le_refl _))
    have N1 := hK p (Int.le_refl _) p1
    rw [if_pos rfl, show (al + k * al) * (p - p) = 0 by rw [Int.sub_self, Int.mul_zero]] at N1
    have N2 := N1.mono (r' := r - 1) (ch' := cK) (by omega) (Int.le_refl _)
    cases lz with
    | true =>
      rw [if_pos rfl] at w2 w3
      refine (Ev_sp ob w1 p1 (by omega) (by omega) ⟨u0, by omega⟩ (c1 := cK) (c2 := nb + k * nb + cK) (by omega) (by rw [w2]; exact N2) (by rw [w3]; exact B1)).eq (fun c => ?_)
      show K p u c ++ _ = ((if true = true then (p, c) :: (D p c).flatMap (fun o => opt true D k o.1 o.2) else _)).flatMap (fun o => K o.1 (if o.1 = p then u else d) o.2)
      rw [if_pos rfl, List.flatMap_cons, if_pos rfl]
      rfl
    | false =>
      rw [if_neg (by decide)] at w2 w3
      refine (Ev_sp ob w1 p1 (by omega) (by omega) ⟨u0, by omega⟩ (c1 := nb + k * nb + cK) (c2 := cK) (by omega) (by rw [w2]; exact B1) (by rw [w3]; exact N2)).eq (fun c => ?_)
      show _ ++ K p u c = ((if false = true then _ else (D p c).flatMap (fun o => opt false D k o.1 o.2) ++ [(p, c)])).flatMap (fun o => K o.1 (if o.1 = p then u else d) o.2)
      rw [if_neg (by decide), List.flatMap_append, List.flatMap_cons, List.flatMap_nil, List.append_nil, if_pos rfl]
      rfl
theorem Sg_star {al be z nb N0 N b t : Int} {lz : Bool} {D : Int → qCp → qWs} (h0 : 1 ≤ N0) (h1 : N ≤ P 0 7) (hd : 0 ≤ d ∧ d ≤ 10) (hM : 2 * Cm ≤ Mx) (hD : Rg n D) (x1 : 0 ≤ al ∧ 0 ≤ be ∧ be ≤ z ∧ 0 ≤ nb) (g1 : spl P N0 N lv s 15 (if lz = true then nx else b) (if lz = true then b else nx) d) (g2 : stp P N0 N lv t 16 s d) (g3 : P 2 t = d + 1) (hb : Sg n tx te P H Mx Cm lv S b t (d + 1) al be z nb D) : Sg n tx te P H Mx Cm lv S s nx d (al + be + 1) 1 (z + 1) nb (fun p c => stw lz D (n - p).toNat p c) := by
  have ob := sp_ok g1 h0 h1
  have ob' := st_ok g2 h0 h1
  obtain ⟨w1, w2, w3, -⟩ := g1
  obtain ⟨v1, v2, -⟩ := g2
  have key : ∀ (j : Nat) (p u r cK : Int) (K : qK), (n - p).toNat < j → 0 ≤ p → p ≤ n → 0 ≤ u → u ≤ d → 2 ≤ cK → nb + cK ≤ Cm → (al + be + 1) * (n - p) + (z + 1) ≤ r → (∀ q, p ≤ q → q ≤ n → Ev n tx te P H Mx lv S nx q (if q = p then u else d) (r - (al + be + 1) * (q - p) - 1) cK (K q (if q = p then u else d))) → Ev n tx te P H Mx lv S s p u r 1 (LFd d (fun p c => stw lz D (n - p).toNat p c) K p u) := by
    intro j
    induction j with
    | zero => intro p u r cK K hj; exact absurd hj (Nat.not_lt_zero _)
    | succ j ih =>
      intro p u r cK K hj p0 p1 u0 u1 hc hC hr hK
      have d1 := Int.add_mul (al + be) 1 (n - p)
      have d2 := Int.add_mul al be (n - p)
      have d3 : 0 ≤ be * (n - p) := Int.mul_nonneg x1.2.1 (by omega)
      have d4 : 0 ≤ al * (n - p) := Int.mul_nonneg x1.1 (by omega)
      have B1 := hb p u (r - 1) 2 (fun q v c => if d + 1 ≤ v then LFd d (fun p c => stw lz D (n - p).toNat p c) K q d c else []) p0 p1 u0 (by omega) (Int.le_refl _) (by omega) (by omega) (fun q q0 q1 => by
        by_cases e : q = p
        · subst e
          rw [if_pos rfl, Int.sub_self, Int.mul_zero]
          refine (Ev_rd (L := fun _ => []) ob' v1 (by omega) (by omega) (by omega) ⟨u0, by omega⟩ (fun w => by omega)).eq (fun c => ?_)
          rw [if_neg (by omega), if_neg (by omega)]
        · rw [if_neg e]
          have f1 : (al + be + 1) * (n - p) = (al + be + 1) * (n - q) + (al + be + 1) * (q - p) := by rw [← Int.mul_add]; congr 1; omega
          have f2 := Int.add_mul (al + be) 1 (q - p)
          have f3 := Int.add_mul al be (q - p)
          have f4 : be * 1 ≤ be * (q - p) := Int.mul_le_mul_of_nonneg_left (by omega) x1.2.1
          have f5 : 0 ≤ (al + be + 1) * (n - q) := Int.mul_nonneg (by omega) (by omega)
          have I1 := ih q d (r - 1 - al * (q - p) - be) cK K (by omega) (by omega) q1 hd.1 (Int.le_refl _) hc hC (by omega) (fun q' r0 r1 => by
            have hk := hK q' (by omega) r1
            rw [if_neg (by omega)] at hk
            rw [ite_self]
            refine hk.mono ?_ (Int.le_refl _)
            have f6 : (al + be + 1) * (q' - p) = (al + be + 1) * (q' - q) + (al + be + 1) * (q - p) := by rw [← Int.mul_add]; congr 1; omega
            omega)
          refine (Ev_rd ob' v1 (by omega) (by omega) (by omega) ⟨by omega, by omega⟩ (fun w => by rw [v2, g3, show d + 1 - 1 = d by omega, show (2 : Int) - 1 = 1 by omega]; exact I1)).eq (fun c => ?_)
          rw [if_pos (by omega), if_pos (by omega)])
      have N1 := hK p (Int.le_refl _) p1
      rw [if_pos rfl, Int.sub_self, Int.mul_zero] at N1
      have N2 := N1.mono (r' := r - 1) (ch' := cK) (by omega) (Int.le_refl _)
      have eb : ∀ c, LFd (d + 1) D (fun q v c => if d + 1 ≤ v then LFd d (fun p c => stw lz D (n - p).toNat p c) K q d c else []) p u c = ((D p c).flatMap (fun o => if o.1 = p then [] else stw lz D (n - o.1).toNat o.1 o.2)).flatMap (fun o => K o.1 (if o.1 = p then u else d) o.2) := fun c => by
        unfold LFd
        rw [List.flatMap_assoc]
        apply fm_eq
        intro o ho
        have hr := hD p c p0 p1 o ho
        dsimp only
        by_cases e : o.1 = p
        · rw [if_pos e, if_pos e, if_neg (by omega)]
          rfl
        · rw [if_neg e, if_neg e, if_pos (Int.le_refl _)]
          apply fm_eq
          intro o' ho'
          have hr' := Rg_st hD lz o.1 o.2 (by omega) hr.2 o' ho'
          rw [ite_self, if_neg (by omega)]
      cases lz with
      | true =>
        rw [if_pos rfl] at w2 w3
        refine (Ev_sp ob w1 p1 (by omega) (by omega) ⟨u0, by omega⟩ (c1 := cK) (c2 := nb + 2) (by omega) (by rw [w2]; exact N2) (by rw [w3]; exact B1)).eq (fun c => ?_)
        rw [eb]
        unfold LFd
        dsimp only
        rw [stw_eq hD true p0 p1, if_pos rfl, List.flatMap_cons, if_pos rfl]
      | false =>
        rw [if_neg (by decide)] at w2 w3
        refine (Ev_sp ob w1 p1 (by omega) (by omega) ⟨u0, by omega⟩ (c1 := nb + 2) (c2 := cK) (by omega) (by rw [w2]; exact B1) (by rw [w3]; exact N2)).eq (fun c => ?_)
        rw [eb]
        unfold LFd
        dsimp only
        rw [stw_eq hD false p0 p1, if_neg (by decide), List.flatMap_append, List.flatMap_cons, List.flatMap_nil, List.append_nil, if_pos rfl]
  intro p u r cK K p0 p1 u0 u1 hc hC hr hK
  exact (key ((n - p).toNat + 1) p u r cK K (Nat.lt_succ_self _) p0 p1 u0 u1 hc hC hr hK).mono (Int.le_refl _) (by omega)
theorem Sg_R {al be z nb N0 N l h : Int} {lz : Bool} {D : Int → qCp → qWs} {R : Int → Int → Int → Prop} (h0 : 1 ≤ N0) (h1 : N ≤ P 0 7) (hd : 0 ≤ d ∧ d ≤ 10) (hM : 2 * Cm ≤ Mx) (hlh : 0 ≤ l ∧ (h < 0 ∨ l ≤ h)) (hD : Rg n D) (x1 : 0 ≤ al ∧ 0 ≤ be ∧ be ≤ z ∧ 0 ≤ nb) (hR : ∀ s t d', (d' = d ∨ d' = d + 1) → R s t d' → Sg n tx te P H Mx Cm lv S s t d' al be z nb D) (hL : LyR P N0 N lv R lz l h s nx d) : Sg n tx te P H Mx Cm lv S s nx d (l * al + (if h < 0 then al + be + 1 else (h - l) * al)) (l * be + (if h < 0 then 1 else (h - l) * (be + 1))) (l * z + (if h < 0 then z + 1 else (h - l) * (z + 1))) (l * nb + (if h < 0 then nb else (h - l) * nb)) (fun p c => (itr D l.toNat p c).flatMap (fun o => mor n lz l h D o.1 o.2)) := by
  obtain ⟨t, L1, L2⟩ := hL
  have I := Sg_it hD x1 (fun s t w => hR s t d (Or.inl rfl) w) l.toNat s L1
  rw [show ((l.toNat : Nat) : Int) = l by omega] at I
  have xl : 0 ≤ l * al ∧ 0 ≤ l * be ∧ l * be ≤ l * z ∧ 0 ≤ l * nb := ⟨Int.mul_nonneg hlh.1 x1.1, Int.mul_nonneg hlh.1 x1.2.1, Int.mul_le_mul_of_nonneg_left x1.2.2.1 hlh.1, Int.mul_nonneg hlh.1 x1.2.2.2⟩
  refine Sg_add (Rg_itr hD _) (Rg_mor hD lz l h) xl ?_ I ?_
  · split
    · omega
    · have hn : 0 ≤ h - l := by omega
      exact ⟨Int.mul_nonneg hn x1.1, Int.mul_nonneg hn (by omega), Int.mul_le_mul_of_nonneg_left (by omega) hn, Int.mul_nonneg hn x1.2.2.2⟩
  · unfold LyM at L2
    by_cases hh : h < 0
    · rw [if_pos hh] at L2
      simp only [if_pos hh]
      obtain ⟨r, b, g1, ⟨g2, g3⟩, g4⟩ := L2
      refine (Sg_star h0 h1 hd hM hD x1 g1 g2 g3 (hR b r (d + 1) (Or.inr rfl) g4)).eq (fun p c _ _ => ?_)
      unfold mor
      rw [if_pos hh]
    · rw [if_neg hh] at L2
      simp only [if_neg hh]
      have O := Sg_opt h0 h1 (by omega) hM hD x1 (fun s t w => hR s t d (Or.inl rfl) w) (h - l).toNat t L2
      rw [show (((h - l).toNat : Nat) : Int) = h - l by omega] at O
      refine O.eq (fun p c _ _ => ?_)
      unfold mor
      rw [if_neg hh]
theorem Sg_mk {N0 N i : Int} (h0 : 1 ≤ N0) (h1 : N ≤ P 0 7) (hd : d ≤ 11) (g1 : stp P N0 N lv s 17 nx d) (g2 : P 2 s = i) (hi : 0 ≤ i ∧ i < 20) (hS : lv = 1 → i ∈ S) : Sg n tx te P H Mx Cm lv S s nx d 0 1 1 1 (fun p c => [(p, upc c i p)]) := by
  intro p u r cK K p0 p1 u0 u1 hc hC hr hK
  have ob := st_ok g1 h0 h1
  obtain ⟨w1, w2, -⟩ := g1
  have N1 := hK p (Int.le_refl _) p1
  rw [if_pos rfl] at N1
  refine (Ev_mk ob w1 (by omega) (fun w => by rw [g2]; exact hS w) (by omega) (by omega) ⟨u0, by omega⟩ (by rw [w2]; exact N1.mono (r' := r - 1) (ch' := 1 + cK - 1) (by omega) (by omega))).eq (fun c => ?_)
  unfold LFd
  rw [List.flatMap_cons, List.flatMap_nil, List.append_nil, if_pos rfl, g2]
theorem Sg_g {N0 N k : Int} (h0 : 1 ≤ N0) (h1 : N ≤ P 0 7) (hd : d ≤ 11) (hk : 1 ≤ k ∧ k ≤ 4) (g1 : stp P N0 N lv s (k + 2) nx d) : Sg n tx te P H Mx Cm lv S s nx d 0 0 0 1 (dn n tx (.num k)) := by
  intro p u r cK K p0 p1 u0 u1 hc hC hr hK
  have ob := st_ok g1 h0 h1
  obtain ⟨w1, w2, -⟩ := g1
  have N1 := hK p (Int.le_refl _) p1
  rw [if_pos rfl] at N1
  refine (Ev_g ob (by omega) (by omega) (by omega) ⟨u0, by omega⟩ (by rw [w2]; exact N1.mono (r' := r) (ch' := 1 + cK - 1) (by omega) (by omega))).eq (fun c => ?_)
  unfold LFd dn
  rw [show P 1 s - 2 = k by omega]
  by_cases hg : good n tx k p = true
  · rw [if_pos hg, if_pos (Or.inr hg), List.flatMap_cons, List.flatMap_nil, List.append_nil, if_pos rfl]
  · rw [if_neg hg, if_neg (by rintro (w | w); · omega
                              · exact hg w)]
    rfl
theorem Sg_v {N0 N : Int} {σ : Nat} (htx : ∀ p, 0 ≤ p → p < n → 0 ≤ tx p ∧ tx p ≤ 255) (h0 : 1 ≤ N0) (h1 : N ≤ P 0 7) (hd : 0 ≤ d ∧ d ≤ 11) (g1 : Ly P H N0 N (.var σ) lv 0 s nx d 0) : Sg n tx te P H Mx Cm lv S s nx d 0 0 0 1 (dn n tx (.var σ)) := by
  intro p u r cK K p0 p1 u0 u1 hc hC hr hK
  have NX : p < n → Ev n tx te P H Mx lv S nx (p + 1) d r (1 + cK - 1) (K (p + 1) d) := fun w => by
    have N1 := hK (p + 1) (by omega) (by omega)
    rw [if_neg (by omega)] at N1
    exact N1.mono (by omega) (by omega)
  have fin : ∀ X : Prop, [Decidable X] → (p < n → (X ↔ σ.testBit (tx p).toNat = true)) → ∀ c, (if p < n ∧ X then K (p + 1) d c else []) = LFd d (dn n tx (.var σ)) K p u c := by
    intro X _ hX c
    unfold LFd dn
    by_cases hg : p < n ∧ σ.testBit (tx p).toNat = true
    · rw [if_pos hg, if_pos ⟨hg.1, (hX hg.1).mpr hg.2⟩, List.flatMap_cons, List.flatMap_nil, List.append_nil, if_neg (by show ¬ (p + 1 = p); omega)]
    · rw [if_neg hg, if_neg (fun w => hg ⟨w.1, (hX w.1).mp w.2⟩)]
      rfl
  rcases g1 with ⟨g1, gv, g2⟩ | ⟨g1, g2, g3, g4⟩
  · have ob := st_ok g1 h0 h1
    obtain ⟨w1, w2, w3, -⟩ := g1
    refine (Ev_b ob w1 (by omega) gv (by omega) (by omega) ⟨u0, by omega⟩ (fun w => by rw [w2, w3]; exact NX w)).eq (fin _ (fun w => ?_))
    have ht := htx p p0 w
    rw [g2 _ (by omega), decide_eq_true_iff, show (((tx p).toNat : Nat) : Int) = tx p by omega]
  · have ob := st_ok g1 h0 h1
    obtain ⟨w1, w2, w3, -⟩ := g1
    refine (Ev_s ob w1 (by omega) ⟨g2, g3⟩ (by omega) (by omega) ⟨u0, by omega⟩ (fun w => by rw [w2, w3]; exact NX w)).eq (fin _ (fun w => ?_))
    have ht := htx p p0 w
    rw [g4 _ (by omega), Option.some_inj]
theorem SgA_row {N0 N s1 alt al be z nb : Int} {D : Int → qCp → qWs} (h0 : 1 ≤ N0) (h1 : N ≤ P 0 7) (hd : d ≤ 11) (hM : 2 * Cm ≤ Mx) (x1 : 0 ≤ al ∧ 0 ≤ be ∧ be ≤ z ∧ 0 ≤ nb) (g1 : spl P N0 N lv s 15 s1 alt d) (h : Sg n tx te P H Mx Cm lv S s1 nx d al be z nb D) : SgA n tx te P H Mx Cm lv S s nx d alt al be z nb D := by
  intro p u r cK ca K A p0 p1 u0 u1 hc hC hca hr hK hA
  have ob := sp_ok g1 h0 h1
  obtain ⟨w1, w2, w3, -⟩ := g1
  have m0 : 0 ≤ al * (n - p) := Int.mul_nonneg x1.1 (by omega)
  have B1 := h p u (r - 1) cK K p0 p1 u0 u1 hc hC (by omega) (fun q q0 q1 => (hK q q0 q1).mono (by omega) (Int.le_refl _))
  exact Ev_sp ob w1 p1 (by omega) (by omega) ⟨u0, by omega⟩ (c1 := nb + cK) (c2 := ca) (by omega) (by rw [w2]; exact B1) (by rw [w3]; exact hA.mono (by omega) (Int.le_refl _))
theorem Sg_sub {t a1 b1 z1 n1 a2 b2 z2 n2 : Int} {D E : Int → qCp → qWs} (x1 : 0 ≤ a1 ∧ 0 ≤ b1 ∧ b1 ≤ z1 ∧ 0 ≤ n1) (x2 : 0 ≤ a2 ∧ 0 ≤ b2 ∧ b2 ≤ z2 ∧ 0 ≤ n2) (h : SgA n tx te P H Mx Cm lv S s nx d t a1 b1 z1 n1 D) (g : Sg n tx te P H Mx Cm lv S t nx d a2 b2 z2 n2 E) : Sg n tx te P H Mx Cm lv S s nx d (a1 + a2) (b1 + b2 + 1) (z1 + z2 + 1) (n1 + n2) (fun p c => D p c ++ E p c) := by
  intro p u r cK K p0 p1 u0 u1 hc hC hr hK
  have e1 := Int.add_mul a1 a2 (n - p)
  have m1 : 0 ≤ a1 * (n - p) := Int.mul_nonneg x1.1 (by omega)
  have m2 : 0 ≤ a2 * (n - p) := Int.mul_nonneg x2.1 (by omega)
  have rm : ∀ q, p ≤ q → (a1 + a2) * (q - p) = a1 * (q - p) + a2 * (q - p) ∧ 0 ≤ a1 * (q - p) ∧ 0 ≤ a2 * (q - p) := fun q q0 => ⟨Int.add_mul _ _ _, Int.mul_nonneg x1.1 (by omega), Int.mul_nonneg x2.1 (by omega)⟩
  have G := g p u (r - b1 - 1) cK K p0 p1 u0 u1 hc (by omega) (by omega) (fun q q0 q1 => (hK q q0 q1).mono (by have := rm q q0; omega) (Int.le_refl _))
  refine ((h p u r cK (n2 + cK) K _ p0 p1 u0 u1 hc (by omega) (by omega) (by omega) (fun q q0 q1 => (hK q q0 q1).mono (by have := rm q q0; omega) (Int.le_refl _)) G).mono (Int.le_refl _) (by omega)).eq (fun c => ?_)
  unfold LFd
  rw [List.flatMap_append]
theorem SgA_sub {t alt a1 b1 z1 n1 a2 b2 z2 n2 : Int} {D E : Int → qCp → qWs} (x1 : 0 ≤ a1 ∧ 0 ≤ b1 ∧ b1 ≤ z1 ∧ 0 ≤ n1) (x2 : 0 ≤ a2 ∧ 0 ≤ b2 ∧ b2 ≤ z2 ∧ 0 ≤ n2) (h : SgA n tx te P H Mx Cm lv S s nx d t a1 b1 z1 n1 D) (g : SgA n tx te P H Mx Cm lv S t nx d alt a2 b2 z2 n2 E) : SgA n tx te P H Mx Cm lv S s nx d alt (a1 + a2) (b1 + b2 + 1) (z1 + z2 + 1) (n1 + n2) (fun p c => D p c ++ E p c) := by
  intro p u r cK ca K A p0 p1 u0 u1 hc hC hca hr hK hA
  have e1 := Int.add_mul a1 a2 (n - p)
  have m1 : 0 ≤ a1 * (n - p) := Int.mul_nonneg x1.1 (by omega)
  have m2 : 0 ≤ a2 * (n - p) := Int.mul_nonneg x2.1 (by omega)
  have rm : ∀ q, p ≤ q → (a1 + a2) * (q - p) = a1 * (q - p) + a2 * (q - p) ∧ 0 ≤ a1 * (q - p) ∧ 0 ≤ a2 * (q - p) := fun q q0 => ⟨Int.add_mul _ _ _, Int.mul_nonneg x1.1 (by omega), Int.mul_nonneg x2.1 (by omega)⟩
  have G := g p u (r - b1 - 1) cK ca K A p0 p1 u0 u1 hc (by omega) hca (by omega) (fun q q0 q1 => (hK q q0 q1).mono (by have := rm q q0; omega) (Int.le_refl _)) (hA.mono (by omega) (Int.le_refl _))
  refine ((h p u r cK (n2 + cK) K _ p0 p1 u0 u1 hc (by omega) (by omega) (by omega) (fun q q0 q1 => (hK q q0 q1).mono (by have := rm q q0; omega) (Int.le_refl _)) G).mono (Int.le_refl _) (by omega)).eq (fun c => ?_)
  unfold LFd
  rw [List.flatMap_append, List.append_assoc]
/-- a lookahead or kept rounds -/
theorem Sg_ap {N0 N k x a1 b1 z1 n1 : Int} {S' : List Int} {Db D : Int → qCp → qWs} (h0 : 1 ≤ N0) (h1 : N ≤ P 0 7) (hd : 0 ≤ d ∧ d ≤ 11) (hM : 2 * Cm ≤ Mx) (hk : k = 7 ∨ k = 8 ∨ k = 14) (x1 : 0 ≤ a1 ∧ 0 ≤ b1 ∧ b1 ≤ z1 ∧ 0 ≤ n1) (g1 : spl P N0 N 0 s k nx x d) (h : Sg n tx te P H Mx Cm 1 S' x 0 0 a1 b1 z1 n1 Db) (hDb : Rg n Db)
    (hE : ∀ p c, D p c = match Db p c with
      | [] => if k = 8 then [(p, c)] else []
      | o :: _ => if k = 8 then [] else if k = 7 then [(p, o.2)] else [o]) : Sg n tx te P H Mx Cm 0 S s nx d a1 (1 + S'.length) (1 + S'.length + z1) n1 D := by
  intro p u r cK K p0 p1 u0 u1 hc hC hr hK
  have ob := sp_ok g1 h0 h1
  obtain ⟨w1, w2, w3, w4, -⟩ := g1
  have m0 : 0 ≤ a1 * (n - p) := Int.mul_nonneg x1.1 (by omega)
  have I := h p 0 (r - 1) 2 (fun q _ c => [(q, c)]) p0 p1 (Int.le_refl _) (Int.le_refl _) (Int.le_refl _) (by omega) (by omega) (fun q q0 q1 => by
    have m1 : a1 * (q - p) ≤ a1 * (n - p) := Int.mul_le_mul_of_nonneg_left (by omega) x1.1
    rw [ite_self]
    refine (Ev_0 (by omega) (by omega) (by omega) (by omega)).eq (fun c => ?_)
    rw [if_pos (Or.inl rfl)])
  have I2 : Ev n tx te P H Mx 1 S' x p 0 (r - 1) (n1 + 2) (Db p) := I.eq (fun c => by
    unfold LFd
    rw [show (fun o : Int × qCp => [(o.1, o.2)]) = (fun o => [o]) from rfl, List.flatMap_singleton'])
  rw [← w1] at hk
  refine (Ev_ap (S' := S') (c1 := n1 + 2) (c2 := cK) (L1 := Db p) (L2 := fun q => K q (if q = p then u else d)) ob hk (by omega) p1 (by omega) (by omega) ⟨u0, by omega⟩ (by omega) (by rw [w3]; exact I2) (fun q q0 q1 q2 => by
    rw [w2, w4]
    refine (hK q q0 q1).mono ?_ (Int.le_refl _)
    have m1 : 0 ≤ a1 * (q - p) := Int.mul_nonneg x1.1 (by omega)
    omega)).eq (fun c => ?_)
  unfold LFd
  rw [hE p c, w1]
  cases hw : Db p c with
  | nil =>
    dsimp only
    rw [if_pos rfl]
    split
    · rw [List.flatMap_cons, List.flatMap_nil, List.append_nil, if_pos rfl]
    · rfl
  | cons o t =>
    dsimp only
    rw [if_pos rfl]
    split
    · rfl
    · split
      · rw [List.flatMap_cons, List.flatMap_nil, List.append_nil, if_pos rfl]
      · rw [List.flatMap_cons, List.flatMap_nil, List.append_nil]
end EVL
