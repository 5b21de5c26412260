/-! THE CLASS'S WALKER: the program of a tree has the ways of the tree -/
section EVM
variable {n : Int} {tx : Int → Int} {te : Int} {P : qP} {H : Int → Nat → Option Bool} {Mx Cm N0 N : Int}
def lvO (lv : Int) (S : List Int) (e : qT) : Prop := (lv = 0 ∧ nst e) ∨ (lv = 1 ∧ aT e = false ∧ ∀ i ∈ sl e, i ∈ S)
theorem Ev_Ly (htx : ∀ p, 0 ≤ p → p < n → 0 ≤ tx p ∧ tx p ≤ 255) (h0 : 1 ≤ N0) (h1 : N ≤ P 0 7) (hM : 2 * Cm ≤ Mx) : ∀ e : qT, wf e → (∀ (lv : Int) (S : List Int) (s nx d m : Int), lvO lv S e → 0 ≤ d → d + sd e ≤ 10 → shq e m → Ly P H N0 N e lv 0 s nx d 0 → Sg n tx te P H Mx Cm lv S s nx d (zal e) (zbe e) (zzz e) (znb e) (dn n tx e)) ∧ (∀ (lv : Int) (S : List Int) (s nx d alt m : Int), lvO lv S e → 0 ≤ d → d ≤ 10 → d + sd e ≤ 10 → shq e m → m ≠ 2 → Ly P H N0 N e lv 1 s nx d alt → SgA n tx te P H Mx Cm lv S s nx d alt (zal e) (zbe e) (zzz e) (znb e) (dn n tx e)) := by
  intro e
  induction e with
  | num k =>
    intro hw
    obtain ⟨k0, k4⟩ := hw
    have M0 : ∀ (lv : Int) (S : List Int) (s nx d : Int), 0 ≤ d → d + sd (.num k) ≤ 10 → (if k = 0 then s = nx else stp P N0 N lv s (k + 2) nx d) → Sg n tx te P H Mx Cm lv S s nx d (zal (.num k)) (zbe (.num k)) (zzz (.num k)) (znb (.num k)) (dn n tx (.num k)) := by
      intro lv S s nx d d0 d1 h
      have d2 : d ≤ 11 := by unfold sd at d1; omega
      show Sg n tx te P H Mx Cm lv S s nx d 0 0 0 (if k = 0 then 0 else 1) (dn n tx (.num k))
      by_cases hk : k = 0
      · rw [if_pos hk] at h ⊢
        subst h
        refine Sg_nil.eq (fun p c _ _ => ?_)
        unfold dn
        rw [if_pos (Or.inl hk)]
      · rw [if_neg hk] at h ⊢
        exact Sg_g h0 h1 d2 ⟨by omega, by omega⟩ h
    refine ⟨fun lv S s nx d m hl d0 d1 hs h => ?_, fun lv S s nx d alt m hl d0 d1 d2 hs hm h => ?_⟩
    · obtain ⟨s1, g1, g2⟩ := h
      unfold ent at g1
      rw [if_neg (by decide)] at g1
      subst g1
      exact M0 lv S s1 nx d d0 d1 g2
    · obtain ⟨s1, g1, g2⟩ := h
      unfold ent at g1
      rw [if_pos rfl] at g1
      exact SgA_row h0 h1 (by omega) hM (z_nn (.num k) ⟨k0, k4⟩) g1 (M0 lv S s1 nx d d0 d2 g2)
  | var σ =>
    intro hw
    refine ⟨fun lv S s nx d m hl d0 d1 hs h => ?_, fun lv S s nx d alt m hl d0 d1 d2 hs hm h => absurd hs hm⟩
    exact Sg_v htx h0 h1 ⟨d0, by unfold sd at d1; omega⟩ h
  | add a b ha hb =>
    intro hw
    have ha := (ha hw.1).1
    have hb := (hb hw.2).1
    have M0 : ∀ (lv : Int) (S : List Int) (s t nx d m : Int), lvO lv S (.add a b) → 0 ≤ d → d + sd (.add a b) ≤ 10 → shq (.add a b) m → Ly P H N0 N a lv 0 s t d 0 → Ly P H N0 N b lv 0 t nx d 0 → Sg n tx te P H Mx Cm lv S s nx d (zal (.add a b)) (zbe (.add a b)) (zzz (.add a b)) (znb (.add a b)) (dn n tx (.add a b)) := by
      intro lv S s t nx d m hl d0 d1 hs l1 l2
      have e : sd (.add a b) = max (sd a) (sd b) := rfl
      have hl2 : lvO lv S a ∧ lvO lv S b := by
        rcases hl with ⟨q1, q2⟩ | ⟨q1, q2, q3⟩
        · exact ⟨Or.inl ⟨q1, q2.1⟩, Or.inl ⟨q1, q2.2⟩⟩
        · have q2' : (aT a || aT b) = false := q2
          rw [Bool.or_eq_false_iff] at q2'
          exact ⟨Or.inr ⟨q1, q2'.1, fun i hi => q3 i (List.mem_append_left _ hi)⟩, Or.inr ⟨q1, q2'.2, fun i hi => q3 i (List.mem_append_right _ hi)⟩⟩
      exact Sg_add (dn_Rg _ _ _) (dn_Rg _ _ _) (z_nn a hw.1) (z_nn b hw.2) (ha lv S s t d 0 hl2.1 d0 (by omega) hs.2.2 l1) (hb lv S t nx d 2 hl2.2 d0 (by omega) hs.2.1 l2)
    refine ⟨fun lv S s nx d m hl d0 d1 hs h => ?_, fun lv S s nx d alt m hl d0 d1 d2 hs hm h => ?_⟩
    · obtain ⟨s1, t, g1, g2, g3⟩ := h
      unfold ent at g1
      rw [if_neg (by decide)] at g1
      subst g1
      exact M0 lv S s1 t nx d m hl d0 d1 hs g2 g3
    · obtain ⟨s1, t, g1, g2, g3⟩ := h
      unfold ent at g1
      rw [if_pos rfl] at g1
      exact SgA_row h0 h1 (by omega) hM (z_nn (.add a b) hw) g1 (M0 lv S s1 t nx d m hl d0 d2 hs g2 g3)
  | sub a b ha hb =>
    intro hw
    have ha := (ha hw.1).2
    have hb := hb hw.2
    have e : sd (.sub a b) = max 0 (max (sd a) (sd b)) := rfl
    have hl2 : ∀ lv S, lvO lv S (.sub a b) → lvO lv S a ∧ lvO lv S b := by
      intro lv S hl
      rcases hl with ⟨q1, q2⟩ | ⟨q1, q2, q3⟩
      · exact ⟨Or.inl ⟨q1, q2.1⟩, Or.inl ⟨q1, q2.2⟩⟩
      · have q2' : (aT a || aT b) = false := q2
        rw [Bool.or_eq_false_iff] at q2'
        exact ⟨Or.inr ⟨q1, q2'.1, fun i hi => q3 i (List.mem_append_left _ hi)⟩, Or.inr ⟨q1, q2'.2, fun i hi => q3 i (List.mem_append_right _ hi)⟩⟩
    refine ⟨fun lv S s nx d m hl d0 d1 hs h => ?_, fun lv S s nx d alt m hl d0 d1 d2 hs hm h => ?_⟩
    · obtain ⟨t, g1, g2⟩ := h
      exact Sg_sub (z_nn a hw.1) (z_nn b hw.2) (ha lv S s nx d t 1 (hl2 _ _ hl).1 d0 (by omega) (by omega) hs.2.2 (by decide) g2) (hb.1 lv S t nx d 0 (hl2 _ _ hl).2 d0 (by omega) hs.2.1 g1)
    · obtain ⟨t, g1, g2⟩ := h
      exact SgA_sub (z_nn a hw.1) (z_nn b hw.2) (ha lv S s nx d t 1 (hl2 _ _ hl).1 d0 (by omega) (by omega) hs.2.2 (by decide) g2) (hb.2 lv S t nx d alt 0 (hl2 _ _ hl).2 d0 (by omega) (by omega) hs.2.1 (by decide) g1)
  | neg a ha =>
    intro hw
    refine ⟨fun lv S s nx d m hl d0 d1 hs h => ?_, fun lv S s nx d alt m hl d0 d1 d2 hs hm h => absurd hs.1 hm⟩
    exact (ha hw).1 lv S s nx d 1 hl d0 d1 hs.2 h
  | mulL k a ha =>
    intro hw
    have ha := (ha hw.2.2).1
    have za := z_nn a hw.2.2
    have e : sd (.mulL k a) = if 1 ≤ k then sd a else max 0 (sd a) := rfl
    refine ⟨fun lv S s nx d m hl d0 d1 hs h => ?_, fun lv S s nx d alt m hl d0 d1 d2 hs hm h => absurd hs.1 hm⟩
    have h' : if 1 ≤ k then (∃ t u, (stp P N0 N lv s 17 t d ∧ P 2 s = 2 * k) ∧ Ly P H N0 N a lv 0 t u d 0 ∧ (stp P N0 N lv u 17 nx d ∧ P 2 u = 2 * k + 1)) else ∃ t, spl P N0 N lv s (if k = 0 then 7 else 8) nx t d ∧ Ly P H N0 N a 1 0 t 0 0 0 := h
    show Sg n tx te P H Mx Cm lv S s nx d (zal a) (if 1 ≤ k then zbe a + 2 else 1 + (sl a).length) (if 1 ≤ k then zzz a + 2 else 1 + (sl a).length + zzz a) (if 1 ≤ k then znb a + 2 else znb a) _
    by_cases hk : 1 ≤ k
    · rw [if_pos hk] at h' e
      simp only [if_pos hk]
      obtain ⟨t, u, ⟨g1, g2⟩, g3, g4, g5⟩ := h'
      have sd1 := sd_ge a
      have hla : lvO lv S a := by
        rcases hl with ⟨q1, q2⟩ | ⟨q1, q2, q3⟩
        · have q2' : if 1 ≤ k then nst a else aT a = false := q2
          rw [if_pos hk] at q2'
          exact Or.inl ⟨q1, q2'⟩
        · have q2' : (aT a || decide (k ≤ 0)) = false := q2
          rw [Bool.or_eq_false_iff] at q2'
          refine Or.inr ⟨q1, q2'.1, fun i hi => q3 i ?_⟩
          show i ∈ (if 1 ≤ k then (2 * k) :: (2 * k + 1) :: sl a else sl a)
          rw [if_pos hk]
          exact List.mem_cons_of_mem _ (List.mem_cons_of_mem _ hi)
      have hm : ∀ i, (i = 2 * k ∨ i = 2 * k + 1) → lv = 1 → i ∈ S := by
        intro i hi hv
        rcases hl with ⟨q1, q2⟩ | ⟨q1, q2, q3⟩
        · omega
        · refine q3 i ?_
          show i ∈ (if 1 ≤ k then (2 * k) :: (2 * k + 1) :: sl a else sl a)
          rw [if_pos hk, List.mem_cons, List.mem_cons]
          omega
      have A := Sg_mk (n := n) (tx := tx) (te := te) (H := H) (Mx := Mx) (Cm := Cm) (S := S) h0 h1 (by omega) g1 g2 (by have := hw.2.1; omega) (hm _ (Or.inl rfl))
      have B := ha lv S t u d 1 hla d0 (by omega) hs.2 g3
      have C := Sg_mk (n := n) (tx := tx) (te := te) (H := H) (Mx := Mx) (Cm := Cm) (S := S) h0 h1 (by omega) g4 g5 (by have := hw.2.1; omega) (hm _ (Or.inr rfl))
      have rg1 : ∀ i, Rg n (fun p c => [(p, upc c i p)]) := fun i p c p0 p1 o ho => by rw [List.mem_singleton] at ho; subst ho; exact ⟨Int.le_refl _, p1⟩
      have AB := Sg_add (rg1 (2 * k)) (dn_Rg n tx a) ⟨by omega, by omega, by omega, by omega⟩ za A B
      have ABC := Sg_add (Rg_fm (rg1 (2 * k)) (dn_Rg n tx a)) (rg1 (2 * k + 1)) ⟨by omega, by omega, by omega, by omega⟩ ⟨by omega, by omega, by omega, by omega⟩ AB C
      refine (ABC.mono (by omega) (by omega) (by omega) (by omega)).eq (fun p c _ _ => ?_)
      show (if 1 ≤ k then (dn n tx a p (upc c (2 * k) p)).flatMap (fun o => [(o.1, upc o.2 (2 * k + 1) o.1)]) else _) = _
      rw [if_pos hk, List.flatMap_cons, List.flatMap_nil, List.append_nil]
    · rw [if_neg hk] at h' e
      simp only [if_neg hk]
      obtain ⟨t, g1, g2⟩ := h'
      obtain ⟨q1, q2⟩ : lv = 0 ∧ aT a = false := by
        rcases hl with ⟨q1, q2⟩ | ⟨q1, q2, q3⟩
        · have q2' : if 1 ≤ k then nst a else aT a = false := q2
          rw [if_neg hk] at q2'
          exact ⟨q1, q2'⟩
        · have q2' : (aT a || decide (k ≤ 0)) = false := q2
          rw [Bool.or_eq_false_iff, decide_eq_false_iff_not] at q2'
          omega
      subst q1
      have I := ha 1 (sl a) t 0 0 1 (Or.inr ⟨rfl, q2, fun i hi => hi⟩) (Int.le_refl _) (by omega) hs.2 g2
      refine Sg_ap h0 h1 ⟨d0, by omega⟩ hM (by split <;> omega) za g1 I (dn_Rg _ _ _) (fun p c => ?_)
      show (if 1 ≤ k then _ else if k = 0 then (match dn n tx a p c with
        | [] => []
        | o :: _ => [(p, o.2)]) else (match dn n tx a p c with
        | [] => [(p, c)]
        | _ :: _ => [])) = _
      rw [if_neg hk]
      by_cases hz : k = 0
      · rw [if_pos hz]
        simp only [if_pos hz]
        cases dn n tx a p c with
        | nil => rfl
        | cons o t => rfl
      · rw [if_neg hz]
        simp only [if_neg hz]
        cases dn n tx a p c with
        | nil => rfl
        | cons o t => rfl
  | mulR a k ha =>
    intro hw
    obtain ⟨g1, g2, g3, g4, g5, g6, g7⟩ := hw
    have ha := (ha g7).1
    have za := z_nn a g7
    have e : sd (.mulR a k) = max 0 (sd a + 1) := rfl
    refine ⟨fun lv S s nx d m hl d0 d1 hs h => ?_, fun lv S s nx d alt m hl d0 d1 d2 hs hm h => absurd hs.1 hm⟩
    have h' : if rg k = 2 then (∃ t, spl P N0 N lv s 14 nx t d ∧ LyR P N0 N 1 (fun s n d => Ly P H N0 N a 1 0 s n d 0) false (rl k) (rh k) t 0 0) else LyR P N0 N lv (fun s n d => Ly P H N0 N a lv 0 s n d 0) (decide (rg k = 1)) (rl k) (rh k) s nx d := h
    have body : ∀ (lv : Int) (S : List Int) (s nx d : Int) (lz : Bool), 0 ≤ d → d + sd (.mulR a k) ≤ 10 → lvO lv S a ∨ (rl k = 0 ∧ rh k = 0) → LyR P N0 N lv (fun s n d => Ly P H N0 N a lv 0 s n d 0) lz (rl k) (rh k) s nx d → Sg n tx te P H Mx Cm lv S s nx d (rl k * zal a + (if rh k < 0 then zal a + zbe a + 1 else (rh k - rl k) * zal a)) (rl k * zbe a + (if rh k < 0 then 1 else (rh k - rl k) * (zbe a + 1))) (rl k * zzz a + (if rh k < 0 then zzz a + 1 else (rh k - rl k) * (zzz a + 1))) (rl k * znb a + (if rh k < 0 then znb a else (rh k - rl k) * znb a)) (fun p c => (itr (dn n tx a) (rl k).toNat p c).flatMap (fun o => mor n lz (rl k) (rh k) (dn n tx a) o.1 o.2)) := by
      intro lv S s nx d lz d0 d1 hl hL
      rcases hl with hl | ⟨z1, z2⟩
      · refine Sg_R h0 h1 ⟨d0, by omega⟩ hM ⟨g1, by omega⟩ (dn_Rg _ _ _) za (fun s t d' hd' w => ?_) hL
        exact ha lv S s t d' 2 hl (by omega) (by omega) hs.2 w
      · obtain ⟨t, L1, L2⟩ := hL
        rw [z1] at L1 L2 ⊢
        rw [z2] at L2 ⊢
        have L1' : s = t := L1
        have L2' : t = nx := by
          unfold LyM at L2
          rw [if_neg (by decide)] at L2
          exact L2
        subst L1' L2'
        refine (Sg_nil.mono (by simp) (by simp) (by simp) (by simp)).eq (fun p c _ _ => ?_)
        show [(p, c)].flatMap (fun o => mor n lz 0 0 (dn n tx a) o.1 o.2) = _
        rw [List.flatMap_cons, List.flatMap_nil, List.append_nil]
        unfold mor
        rw [if_neg (by decide)]
        rfl
    by_cases hk : rg k = 2
    · rw [if_pos hk] at h'
      obtain ⟨t, f1, f2⟩ := h'
      obtain ⟨q1, q2⟩ : lv = 0 ∧ aT a = false := by
        rcases hl with ⟨q1, q2⟩ | ⟨q1, q2, q3⟩
        · have q2' : if rg k = 2 then aT a = false else nst a := q2
          rw [if_pos hk] at q2'
          exact ⟨q1, q2'⟩
        · have q2' : (aT a || decide (rg k = 2)) = false := q2
          rw [Bool.or_eq_false_iff, decide_eq_false_iff_not] at q2'
          exact absurd hk q2'.2
      subst q1
      have hls : lvO 1 (sl (.mulR a k)) a ∨ (rl k = 0 ∧ rh k = 0) := by
        by_cases hz : rl k = 0 ∧ rh k = 0
        · exact Or.inr hz
        · refine Or.inl (Or.inr ⟨rfl, q2, fun i hi => ?_⟩)
          show i ∈ (if rl k = 0 ∧ rh k = 0 then [] else sl a)
          rw [if_neg hz]
          exact hi
      have I := body 1 (sl (.mulR a k)) t 0 0 false (Int.le_refl _) (by omega) hls f2
      rw [zal_R, zbe_R, zzz_R, znb_R, if_pos hk, if_pos hk]
      have zR := z_R (k := k) za g1 (by omega)
      refine Sg_ap h0 h1 ⟨d0, by omega⟩ hM (Or.inr (Or.inr rfl)) zR f1 I (Rg_fm (Rg_itr (dn_Rg _ _ _) _) (Rg_mor (dn_Rg _ _ _) _ _ _)) (fun p c => ?_)
      rw [dn_mulR, if_pos hk]
      cases (itr (dn n tx a) (rl k).toNat p c).flatMap (fun o => mor n false (rl k) (rh k) (dn n tx a) o.1 o.2) with
      | nil => rfl
      | cons o t => rfl
    · rw [if_neg hk] at h'
      have hls : lvO lv S a ∨ (rl k = 0 ∧ rh k = 0) := by
        by_cases hz : rl k = 0 ∧ rh k = 0
        · exact Or.inr hz
        · refine Or.inl ?_
          rcases hl with ⟨q1, q2⟩ | ⟨q1, q2, q3⟩
          · have q2' : if rg k = 2 then aT a = false else nst a := q2
            rw [if_neg hk] at q2'
            exact Or.inl ⟨q1, q2'⟩
          · have q2' : (aT a || decide (rg k = 2)) = false := q2
            rw [Bool.or_eq_false_iff] at q2'
            refine Or.inr ⟨q1, q2'.1, fun i hi => q3 i ?_⟩
            show i ∈ (if rl k = 0 ∧ rh k = 0 then [] else sl a)
            rw [if_neg hz]
            exact hi
      have I := body lv S s nx d (decide (rg k = 1)) d0 d1 hls h'
      rw [zal_R, zbe_R, zzz_R, znb_R, if_neg hk, if_neg hk, Int.zero_add]
      refine I.eq (fun p c _ _ => ?_)
      rw [dn_mulR, if_neg hk]
end EVM
/-! numbers -/
section ZN
variable {l h w : Int}
/-- the weight of rounds but for keeping -/
def wRn (l h w : Int) : Int := l * w + (if h < 0 then w + 1 else (h - l) * (w + 1))
theorem zr_A {a b s : Int} (hl : 0 ≤ l) (hh : h < 0 ∨ l ≤ h) (hz : ¬ (l = 0 ∧ h = 0)) (a0 : 0 ≤ a) (b0 : 0 ≤ b) (s0 : 0 ≤ s) (hx : a + b + s ≤ 2 * w) : l * a + (if h < 0 then a + b + 1 else (h - l) * a) + (l * b + (if h < 0 then 1 else (h - l) * (b + 1))) + s ≤ 2 * wRn l h w := by
  unfold wRn
  have e1 : l * a + l * b = l * (a + b) := (Int.mul_add _ _ _).symm
  have e2 : l * (a + b) ≤ l * (2 * w) := Int.mul_le_mul_of_nonneg_left (by omega) hl
  have e3 : l * (2 * w) = 2 * (l * w) := by rw [← Int.mul_assoc, Int.mul_comm l 2, Int.mul_assoc]
  by_cases hn : h < 0
  · simp only [if_pos hn]
    omega
  · simp only [if_neg hn]
    have d0 : 0 ≤ h - l := by omega
    have e4 : (h - l) * a + (h - l) * (b + 1) = (h - l) * (a + b + 1) := by rw [← Int.mul_add]; congr 1; omega
    have e5 : (h - l) * (2 * (w + 1)) = 2 * ((h - l) * (w + 1)) := by rw [← Int.mul_assoc, Int.mul_comm (h - l) 2, Int.mul_assoc]
    by_cases h1 : 1 ≤ l
    · have e6 : (h - l) * (a + b + 1) ≤ (h - l) * (2 * (w + 1)) := Int.mul_le_mul_of_nonneg_left (by omega) d0
      have e7 : l * (a + b + s) ≤ l * (2 * w) := Int.mul_le_mul_of_nonneg_left hx hl
      have e8 := Int.mul_add l (a + b) s
      have e9 : 1 * s ≤ l * s := Int.mul_le_mul_of_nonneg_right h1 s0
      omega
    · have e6 : (h - l) * (a + b + 1 + s) ≤ (h - l) * (2 * (w + 1)) := Int.mul_le_mul_of_nonneg_left (by omega) d0
      have e8 := Int.mul_add (h - l) (a + b + 1) s
      have e9 : 1 * s ≤ (h - l) * s := Int.mul_le_mul_of_nonneg_right (by omega) s0
      omega
theorem zr_B {z : Int} (hl : 0 ≤ l) (hh : h < 0 ∨ l ≤ h) (hx : z ≤ w) : l * z + (if h < 0 then z + 1 else (h - l) * (z + 1)) ≤ wRn l h w := by
  unfold wRn
  have e2 : l * z ≤ l * w := Int.mul_le_mul_of_nonneg_left hx hl
  by_cases hn : h < 0
  · simp only [if_pos hn]
    omega
  · simp only [if_neg hn]
    have e6 : (h - l) * (z + 1) ≤ (h - l) * (w + 1) := Int.mul_le_mul_of_nonneg_left (by omega) (by omega)
    omega
theorem zr_B2 {z : Int} (hl : 0 ≤ l) (hh : h < 0 ∨ l ≤ h) (hx : z ≤ 2 * w) : l * z + (if h < 0 then z + 1 else (h - l) * (z + 1)) ≤ 2 * wRn l h w := by
  unfold wRn
  have e2 : l * z ≤ l * (2 * w) := Int.mul_le_mul_of_nonneg_left hx hl
  have e3 : l * (2 * w) = 2 * (l * w) := by rw [← Int.mul_assoc, Int.mul_comm l 2, Int.mul_assoc]
  by_cases hn : h < 0
  · simp only [if_pos hn]
    omega
  · simp only [if_neg hn]
    have e6 : (h - l) * (z + 1) ≤ (h - l) * (2 * (w + 1)) := Int.mul_le_mul_of_nonneg_left (by omega) (by omega)
    have e5 : (h - l) * (2 * (w + 1)) = 2 * ((h - l) * (w + 1)) := by rw [← Int.mul_assoc, Int.mul_comm (h - l) 2, Int.mul_assoc]
    omega
theorem zr_C {m s : Int} (hl : 0 ≤ l) (hh : h < 0 ∨ l ≤ h) (hx : m + s ≤ w) : l * m + (if h < 0 then m else (h - l) * m) + (l * s + (if h < 0 then s + 1 else (h - l) * (s + 1))) ≤ wRn l h w := by
  unfold wRn
  have e1 : l * m + l * s = l * (m + s) := (Int.mul_add _ _ _).symm
  have e2 : l * (m + s) ≤ l * w := Int.mul_le_mul_of_nonneg_left hx hl
  by_cases hn : h < 0
  · simp only [if_pos hn]
    omega
  · simp only [if_neg hn]
    have e4 : (h - l) * m + (h - l) * (s + 1) = (h - l) * (m + s + 1) := by rw [← Int.mul_add]; congr 1; omega
    have e6 : (h - l) * (m + s + 1) ≤ (h - l) * (w + 1) := Int.mul_le_mul_of_nonneg_left (by omega) (by omega)
    omega
theorem zr_w (hl : 0 ≤ l) (hh : h < 0 ∨ l ≤ h) (hz : ¬ (l = 0 ∧ h = 0)) (w0 : 0 ≤ w) : w ≤ wRn l h w := by
  unfold wRn
  have e0 : 0 ≤ l * w := Int.mul_nonneg hl w0
  by_cases hn : h < 0
  · simp only [if_pos hn]
    omega
  · simp only [if_neg hn]
    have e1 : 0 ≤ (h - l) * (w + 1) := Int.mul_nonneg (by omega) (by omega)
    by_cases h1 : 1 ≤ l
    · have e9 : 1 * w ≤ l * w := Int.mul_le_mul_of_nonneg_right h1 w0
      omega
    · have e9 : 1 * (w + 1) ≤ (h - l) * (w + 1) := Int.mul_le_mul_of_nonneg_right (by omega) (by omega)
      omega
end ZN
theorem wR_R {a : qT} {k : Int} (h : wR (.mulR a k) < 100000) : wR (.mulR a k) = wRn (rl k) (rh k) (wR a) + (if rg k = 2 then 1 else 0) := by
  have e : wR (.mulR a k) = if wRep (wR a) k < 100000 then wRep (wR a) k else 100000 := rfl
  rw [e] at h ⊢
  split
  · unfold wRep wRn; rfl
  · rename_i q; rw [if_neg q] at h; omega
theorem spc_R {a : qT} {k : Int} : spc (.mulR a k) = rl k * spc a + (if rh k < 0 then spc a + 1 else (rh k - rl k) * (spc a + 1)) + (if rg k = 2 then 1 else 0) := rfl
theorem sl_R {a : qT} {k : Int} : sl (.mulR a k) = if rl k = 0 ∧ rh k = 0 then [] else sl a := rfl
/-- a tree with nothing apart -/
theorem z_w1 : ∀ e : qT, wf e → wR e < 100000 → aT e = false → znb e + spc e ≤ wR e ∧ zal e + zbe e + ((sl e).length : Int) ≤ 2 * wR e ∧ zzz e ≤ wR e ∧ ((sl e).length : Int) ≤ wR e := by
  intro e
  induction e with
  | num k => intro _ _ _; unfold znb spc wR zal zbe zzz sl; rw [List.length_nil]; split <;> simp
  | var _ => intro _ _ _; unfold znb spc wR zal zbe zzz sl; rw [List.length_nil]; simp
  | add a b h1 h2 =>
    intro hw hl ht
    have e : wR (.add a b) = wR a + wR b := rfl
    have ht' : (aT a || aT b) = false := ht
    rw [Bool.or_eq_false_iff] at ht'
    have wa := wR_bd a hw.1
    have wb := wR_bd b hw.2
    have := h1 hw.1 (by omega) ht'.1
    have := h2 hw.2 (by omega) ht'.2
    unfold znb spc wR zal zbe zzz sl
    rw [List.length_append]
    omega
  | sub a b h1 h2 =>
    intro hw hl ht
    have e : wR (.sub a b) = wR a + wR b + 1 := rfl
    have ht' : (aT a || aT b) = false := ht
    rw [Bool.or_eq_false_iff] at ht'
    have wa := wR_bd a hw.1
    have wb := wR_bd b hw.2
    have := h1 hw.1 (by omega) ht'.1
    have := h2 hw.2 (by omega) ht'.2
    unfold znb spc wR zal zbe zzz sl
    rw [List.length_append]
    omega
  | neg a h1 =>
    intro hw hl ht
    have e : wR (.neg a) = wR a + 1 := rfl
    have := h1 hw (by omega) ht
    unfold znb spc wR zal zbe zzz sl
    omega
  | mulL k a h1 =>
    intro hw hl ht
    have e : wR (.mulL k a) = wR a + (if 1 ≤ k then 2 else 1) := rfl
    have ht' : (aT a || decide (k ≤ 0)) = false := ht
    rw [Bool.or_eq_false_iff, decide_eq_false_iff_not] at ht'
    have hk : 1 ≤ k := by omega
    rw [if_pos hk] at e
    have := h1 hw.2.2 (by omega) ht'.1
    unfold znb spc wR zal zbe zzz sl
    simp only [if_pos hk, List.length_cons]
    omega
  | mulR a k h1 =>
    intro hw hl ht
    obtain ⟨g1, g2, g3, g4, g5, g6, g7⟩ := hw
    have ht' : (aT a || decide (rg k = 2)) = false := ht
    rw [Bool.or_eq_false_iff, decide_eq_false_iff_not] at ht'
    have e := wR_R hl
    rw [e] at hl
    have wa := wR_bd a g7
    rw [e, zal_R, zbe_R, zzz_R, znb_R, spc_R, sl_R]
    simp only [if_neg ht'.2] at hl ⊢
    by_cases hz : rl k = 0 ∧ rh k = 0
    · rw [if_pos hz, hz.1, hz.2]
      unfold wRn
      simp
    · rw [if_neg hz]
      have ww := zr_w g1 (by omega) hz wa.1
      obtain ⟨i1, i2, i3, i4⟩ := h1 g7 (by omega) ht'.1
      obtain ⟨n1, n2, n3, n4⟩ := z_nn a g7
      have A := zr_A g1 (by omega) hz n1 n2 (by omega) i2
      have B := zr_B g1 (by omega) i3 (h := rh k)
      have C := zr_C g1 (by omega) i1 (h := rh k)
      omega
theorem z_w2 : ∀ e : qT, wf e → wR e < 100000 → nst e → znb e + spc e ≤ wR e ∧ zal e + zbe e ≤ 2 * wR e ∧ zzz e ≤ 2 * wR e := by
  intro e
  induction e with
  | num k => intro _ _ _; unfold znb spc wR zal zbe zzz; split <;> simp
  | var _ => intro _ _ _; unfold znb spc wR zal zbe zzz; simp
  | add a b h1 h2 =>
    intro hw hl ht
    have e : wR (.add a b) = wR a + wR b := rfl
    have wa := wR_bd a hw.1
    have wb := wR_bd b hw.2
    have := h1 hw.1 (by omega) ht.1
    have := h2 hw.2 (by omega) ht.2
    unfold znb spc wR zal zbe zzz
    omega
  | sub a b h1 h2 =>
    intro hw hl ht
    have e : wR (.sub a b) = wR a + wR b + 1 := rfl
    have wa := wR_bd a hw.1
    have wb := wR_bd b hw.2
    have := h1 hw.1 (by omega) ht.1
    have := h2 hw.2 (by omega) ht.2
    unfold znb spc wR zal zbe zzz
    omega
  | neg a h1 =>
    intro hw hl ht
    have e : wR (.neg a) = wR a + 1 := rfl
    have := h1 hw (by omega) ht
    unfold znb spc wR zal zbe zzz
    omega
  | mulL k a h1 =>
    intro hw hl ht
    have e : wR (.mulL k a) = wR a + (if 1 ≤ k then 2 else 1) := rfl
    have ht' : if 1 ≤ k then nst a else aT a = false := ht
    unfold znb spc wR zal zbe zzz
    by_cases hk : 1 ≤ k
    · rw [if_pos hk] at e ht'
      have := h1 hw.2.2 (by omega) ht'
      simp only [if_pos hk]
      omega
    · rw [if_neg hk] at e ht'
      have := z_w1 a hw.2.2 (by omega) ht'
      have := z_nn a hw.2.2
      simp only [if_neg hk]
      omega
  | mulR a k h1 =>
    intro hw hl ht
    obtain ⟨g1, g2, g3, g4, g5, g6, g7⟩ := hw
    have ht' : if rg k = 2 then aT a = false else nst a := ht
    have e := wR_R hl
    rw [e] at hl
    have wa := wR_bd a g7
    rw [e, zal_R, zbe_R, zzz_R, znb_R, spc_R]
    by_cases hz : rl k = 0 ∧ rh k = 0
    · rw [sl_R, if_pos hz, hz.1, hz.2]
      unfold wRn
      by_cases hk : rg k = 2
      · simp [hk]
      · simp [hk]
    · have ww := zr_w g1 (by omega) hz wa.1
      obtain ⟨n1, n2, n3, n4⟩ := z_nn a g7
      have zR := z_R (k := k) ⟨n1, n2, n3, n4⟩ g1 (by omega)
      by_cases hk : rg k = 2
      · simp only [if_pos hk] at hl ht' ⊢
        obtain ⟨i1, i2, i3, i4⟩ := z_w1 a g7 (by omega) ht'
        have A := zr_A g1 (by omega) hz n1 n2 (by omega) i2
        have B := zr_B g1 (by omega) i3 (h := rh k)
        have C := zr_C g1 (by omega) i1 (h := rh k)
        rw [sl_R, if_neg hz]
        omega
      · simp only [if_neg hk] at hl ht' ⊢
        obtain ⟨i1, i2, i3⟩ := h1 g7 (by omega) ht'
        have A := zr_A g1 (by omega) hz n1 n2 (Int.le_refl 0) (by omega : zal a + zbe a + 0 ≤ 2 * wR a)
        have B := zr_B2 g1 (by omega) i3 (h := rh k)
        have C := zr_C g1 (by omega) i1 (h := rh k)
        omega
