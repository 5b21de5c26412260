/-! THE REFERENCE'S CALLS: replace -/
def wi (w : List Int) (i : Int) : Int := match w[i.toNat]? with
  | some c => c
  | none => 0
/-- bytes from i on, k of them -/
def sgm (tx : Int → Int) : Nat → Int → List Int
  | 0, _ => []
  | k + 1, i => tx i :: sgm tx k (i + 1)
/-- what stands for one match; rd: the n bytes of the replacement -/
def sbs (tx rd : Int → Int) (n : Int) (g : Int → Int) : Nat → Int → List Int
  | 0, _ => []
  | k + 1, i => if n ≤ i then [] else if rd i = 36 then (if rd (i + 1) = 36 then 36 :: sbs tx rd n g k (i + 2) else (if g (2 * (rd (i + 1) - 48)) < 0 ∨ g (2 * (rd (i + 1) - 48) + 1) < 0 then [] else sgm tx (g (2 * (rd (i + 1) - 48) + 1) - g (2 * (rd (i + 1) - 48))).toNat (g (2 * (rd (i + 1) - 48)))) ++ sbs tx rd n g k (i + 2)) else rd i :: sbs tx rd n g k (i + 1)
/-- the place where a replacement is broken -/
def vld (rd : Int → Int) (n : Int) : Nat → Int → Option Int
  | 0, _ => none
  | k + 1, i => if n ≤ i then none else if rd i = 36 then (if i + 1 < n ∧ (rd (i + 1) = 36 ∨ (48 ≤ rd (i + 1) ∧ rd (i + 1) ≤ 57)) then vld rd n k (i + 2) else some (i + 1)) else vld rd n k (i + 1)
/-- the new text from the place bh on; matches are sought from s on -/
def rpl (n : Int) (tx : Int → Int) (e : qT) (rd : Int → Int) (rn : Int) : Nat → Int → Int → List Int
  | 0, _, bh => sgm tx (n - bh).toNat bh
  | f + 1, s, bh => match fstM n tx e 0 (n + 1 - s).toNat s with
    | none => sgm tx (n - bh).toNat bh
    | some (b, o) => sgm tx (b - bh).toNat bh ++ (sbs tx rd rn (grp b o) 1201 0 ++ rpl n tx e rd rn f (if o.1 = b then o.1 + 1 else o.1) o.1)
section RREPL
variable {m : Nat} {h0 : qH} {d : Nat} {B : qB} {Q : qO → qB → Prop}
/-- what was said so far -/
def MD (B : qB) (w : List Int) : Prop := (∀ c ∈ w, 0 ≤ c ∧ c < 256) ∧ B 74 0 = min (w.length : Int) 1000 ∧ B 75 0 = (if (w.length : Int) ≤ 1000 then 0 else 1) ∧ ∀ i : Int, 0 ≤ i → i < w.length → i < 1000 → B 73 i = wi w i
def Sy (b : Nat) (_ : Int) : Prop := b ≠ 73 ∧ b ≠ 74 ∧ b ≠ 75
theorem wi_app {l r : List Int} {i : Int} (h0 : 0 ≤ i) (h : i < l.length) : wi (l ++ r) i = wi l i := by
  unfold wi
  rw [List.getElem?_append_left (by omega)]
theorem wi_last {l : List Int} {c : Int} : wi (l ++ [c]) l.length = c := by
  unfold wi
  rw [List.getElem?_append_right (by omega)]
  simp
theorem MD_fr {B B' : qB} {w : List Int} (h : MD B w) (f : ∀ b y, (b = 73 ∨ b = 74 ∨ b = 75) → B' b y = B b y) : MD B' w := by
  obtain ⟨h1, h2, h3, h4⟩ := h
  exact ⟨h1, by rw [f 74 0 (by omega)]; exact h2, by rw [f 75 0 (by omega)]; exact h3, fun i i0 i1 i2 => by rw [f 73 i (by omega)]; exact h4 i i0 i1 i2⟩
theorem R_say (hm : m + 100 < 1000000000) {c : Int} {w : List Int} (hM : MD B w) (c0 : 0 ≤ c) (c1 : c < 256) (k : ∀ B', FrS Sy B B' → MD B' (w ++ [c]) → Q (.inl none) B') : qZ m h0 (d + 1) k_say 0 [some (.ref m), some (iv c)] [] B Q := by
  obtain ⟨h1, h2, h3, h4⟩ := hM
  have hl : ((w ++ [c]).length : Int) = w.length + 1 := by rw [List.length_append, List.length_singleton]; omega
  have hin : ∀ x ∈ w ++ [c], 0 ≤ x ∧ x < 256 := by
    intro x hx
    rcases List.mem_append.mp hx with q | q
    · exact h1 x q
    · rw [List.mem_singleton] at q; subst q; exact ⟨c0, c1⟩
  refine r_say_0_ok hm ?_
  unfold r_say_0
  rw [h2]
  refine ⟨⟨by omega, by omega⟩, fun q => ?_, fun q => ?_⟩
  · refine ⟨by omega, by omega, k _ ((FrS.refl.u2 (by unfold Sy; omega)).u2 (by unfold Sy; omega)) ⟨hin, by rw [u2_same, hl]; omega, ?_, fun i i0 i1 i2 => ?_⟩⟩
    · rw [u2_bank (by decide), u2_bank (by decide), h3, hl, if_pos (by omega), if_pos (by omega)]
    · rw [u2_bank (by decide)]
      by_cases e : i = w.length
      · subst e
        rw [show min (w.length : Int) 1000 = w.length by omega, u2_same]
        exact wi_last.symm
      · rw [u2_idx (by omega), wi_app i0 (by omega)]
        exact h4 i i0 (by omega) i2
  · refine k _ (FrS.refl.u2 (by unfold Sy; omega)) ⟨hin, by rw [u2_bank (by decide), h2, hl]; omega, by rw [u2_same, hl, if_neg (by omega)], fun i i0 i1 i2 => ?_⟩
    rw [u2_bank (by decide), wi_app i0 (by omega)]
    exact h4 i i0 (by omega) i2
theorem sgm_app {tx : Int → Int} : ∀ (k : Nat) (i : Int), sgm tx (k + 1) i = tx i :: sgm tx k (i + 1) := fun _ _ => rfl
theorem R_substitute (hm : m + 100 < 1000000000) {g rd : Int → Int} {rn : Int} {w : List Int} (hT : TXT B) (hM : MD B w) (hg : ∀ i, 0 ≤ i → i < 20 → B 49 i = g i) (hC : CR B) (h16 : B 16 0 = rn) (rn0 : 0 ≤ rn) (rn1 : rn ≤ 1200) (hrd : ∀ i, 0 ≤ i → i < rn → B 15 i = rd i ∧ 0 ≤ rd i ∧ rd i < 256) (hv : vld rd rn 1201 0 = none) (k : ∀ B', FrS Sy B B' → MD B' (w ++ sbs (tB B) rd rn g 1201 0) → Q (.inl none) B') : qZ m h0 (d + 2) k_substitute 0 [some (.ref m), none, none, none] [] B Q := by
  obtain ⟨t1, t2, t3, t4, t5⟩ := hT
  have L : ∀ (N : Nat) (i : Int) (Bk : qB) (w' : List Int), 0 ≤ i → rn - i < N → i ≤ 1201 → FrS Sy B Bk → MD Bk w' → vld rd rn N i = none → w' ++ sbs (tB B) rd rn g N i = w ++ sbs (tB B) rd rn g 1201 0 → qZ m h0 (d + 2) k_substitute 2 [some (.ref m), some (iv i), none, none] [] Bk Q := by
    intro N
    induction N with
    | zero =>
      intro i Bk w' i0 hN hi f hMk hvk hw
      have s16 : Bk 16 0 = rn := (f 16 0 (by unfold Sy; omega)).trans h16
      refine r_substitute_2_ok hm ?_
      unfold r_substitute_2
      rw [s16]
      refine ⟨⟨by omega, by omega⟩, ⟨by omega, by omega⟩, fun _ => ?_, fun q => by omega⟩
      refine k Bk f ?_
      rw [← hw]
      rw [show sbs (tB B) rd rn g 0 i = [] from rfl, List.append_nil]
      exact hMk
    | succ N ih =>
      intro i Bk w' i0 hN hi f hMk hvk hw
      have s16 : Bk 16 0 = rn := (f 16 0 (by unfold Sy; omega)).trans h16
      have hs : sbs (tB B) rd rn g (N + 1) i = if rn ≤ i then [] else if rd i = 36 then (if rd (i + 1) = 36 then 36 :: sbs (tB B) rd rn g N (i + 2) else (if g (2 * (rd (i + 1) - 48)) < 0 ∨ g (2 * (rd (i + 1) - 48) + 1) < 0 then [] else sgm (tB B) (g (2 * (rd (i + 1) - 48) + 1) - g (2 * (rd (i + 1) - 48))).toNat (g (2 * (rd (i + 1) - 48)))) ++ sbs (tB B) rd rn g N (i + 2)) else rd i :: sbs (tB B) rd rn g N (i + 1) := rfl
      have hvs : (if rn ≤ i then none else if rd i = 36 then (if i + 1 < rn ∧ (rd (i + 1) = 36 ∨ (48 ≤ rd (i + 1) ∧ rd (i + 1) ≤ 57)) then vld rd rn N (i + 2) else some (i + 1)) else vld rd rn N (i + 1)) = none := hvk
      rw [hs] at hw
      refine r_substitute_2_ok hm ?_
      unfold r_substitute_2
      rw [s16]
      refine ⟨⟨by omega, by omega⟩, ⟨by omega, by omega⟩, fun hge => ?_, fun hlt => ?_⟩
      · rw [if_pos hge, List.append_nil] at hw
        refine k Bk f ?_
        rw [← hw]
        exact hMk
      · rw [if_neg (by omega)] at hw hvs
        have hr := hrd i i0 hlt
        have s15 : Bk 15 i = rd i := (f 15 i (by unfold Sy; omega)).trans hr.1
        rw [s15]
        refine ⟨i0, by omega, ⟨by omega, by omega⟩, fun h36 => ?_, fun h36 => ?_⟩
        · rw [if_pos h36] at hw hvs
          by_cases hc : i + 1 < rn ∧ (rd (i + 1) = 36 ∨ (48 ≤ rd (i + 1) ∧ rd (i + 1) ≤ 57))
          · rw [if_pos hc] at hvs
            have hr2 := hrd (i + 1) (by omega) hc.1
            have s15b : Bk 15 (i + 1) = rd (i + 1) := (f 15 _ (by unfold Sy; omega)).trans hr2.1
            rw [s15b]
            refine ⟨by omega, by omega, ⟨by omega, by omega⟩, fun n36 => ?_, fun e36 => ?_⟩
            · rw [if_neg n36] at hw
              have hd : 48 ≤ rd (i + 1) ∧ rd (i + 1) ≤ 57 := hc.2.resolve_left n36
              have c1 := hC (2 * (rd (i + 1) - 48)) (by omega) (by omega)
              have c2 := hC (2 * (rd (i + 1) - 48) + 1) (by omega) (by omega)
              have v1 : Bk 49 (2 * (rd (i + 1) - 48)) = g (2 * (rd (i + 1) - 48)) := (f 49 _ (by unfold Sy; omega)).trans (hg _ (by omega) (by omega))
              have v2 : Bk 49 (2 * (rd (i + 1) - 48) + 1) = g (2 * (rd (i + 1) - 48) + 1) := (f 49 _ (by unfold Sy; omega)).trans (hg _ (by omega) (by omega))
              rw [hg _ (by omega) (by omega)] at c1 c2
              rw [v1, v2]
              have go : w' ++ sbs (tB B) rd rn g N (i + 2) = w ++ sbs (tB B) rd rn g 1201 0 → r_substitute_132 m h0 (d + 1) (i + 1) Bk Q := by
                intro hw2
                unfold r_substitute_132
                rw [show i + 1 + 1 = i + 2 by omega]
                exact ih (i + 2) Bk w' (by omega) (by omega) (by omega) f hMk hvs hw2
              refine ⟨by omega, by omega, ⟨by omega, by omega⟩, fun z1 => ?_, fun z1 => ⟨by omega, by omega, ⟨by omega, by omega⟩, fun z2 => ?_, fun z2 => ?_⟩⟩
              · rw [if_pos (Or.inl z1), List.nil_append] at hw; exact go hw
              · rw [if_neg (by omega)] at hw
                -- the group's bytes
                have LG : ∀ (M : Nat) (x : Int) (Bj : qB) (w2 : List Int), g (2 * (rd (i + 1) - 48)) ≤ x → x ≤ 1000 → (g (2 * (rd (i + 1) - 48) + 1) - x).toNat = M → FrS Sy B Bj → MD Bj w2 → w2 ++ (sgm (tB B) M x ++ sbs (tB B) rd rn g N (i + 2)) = w ++ sbs (tB B) rd rn g 1201 0 → qZ m h0 (d + 2) k_substitute 103 [some (.ref m), some (iv (i + 1)), some (iv (rd (i + 1) - 48)), some (iv x)] [] Bj Q := by
                  intro M
                  induction M with
                  | zero =>
                    intro x Bj w2 hx hx1 hM2 f2 hMj hw2
                    have u2' : Bj 49 (2 * (rd (i + 1) - 48) + 1) = g (2 * (rd (i + 1) - 48) + 1) := (f2 49 _ (by unfold Sy; omega)).trans (hg _ (by omega) (by omega))
                    refine r_substitute_103_ok hm ?_
                    unfold r_substitute_103
                    rw [u2']
                    refine ⟨by omega, by omega, ⟨by omega, by omega⟩, ⟨by omega, by omega⟩, fun _ => ?_, fun q => by omega⟩
                    unfold r_substitute_132
                    rw [show i + 1 + 1 = i + 2 by omega]
                    rw [show sgm (tB B) 0 x = [] from rfl, List.nil_append] at hw2
                    exact ih (i + 2) Bj w2 (by omega) (by omega) (by omega) f2 hMj hvs hw2
                  | succ M ih2 =>
                    intro x Bj w2 hx hx1 hM2 f2 hMj hw2
                    have u2' : Bj 49 (2 * (rd (i + 1) - 48) + 1) = g (2 * (rd (i + 1) - 48) + 1) := (f2 49 _ (by unfold Sy; omega)).trans (hg _ (by omega) (by omega))
                    have u58 : Bj 58 0 = B 58 0 := f2 58 0 (by unfold Sy; omega)
                    refine r_substitute_103_ok hm ?_
                    unfold r_substitute_103
                    rw [u2']
                    refine ⟨by omega, by omega, ⟨by omega, by omega⟩, ⟨by omega, by omega⟩, fun q => by omega, fun _ => ?_⟩
                    refine R_byteAt hm (by rw [u58]; omega) (by rw [u58]; omega) ⟨_, rfl, ?_⟩
                    have u5 : Bj 5 (Bj 58 0 + x) = tB B x := by rw [u58, f2 5 _ (by unfold Sy; omega)]; rfl
                    have hb := t5 (B 58 0 + x) (by omega) (by omega)
                    rw [u5]
                    unfold r_substitute_123
                    refine R_say hm hMj hb.1 hb.2 (fun B' f3 hM3 => ⟨rfl, ?_⟩)
                    unfold r_substitute_126
                    refine ih2 (x + 1) B' (w2 ++ [tB B x]) (by omega) (by omega) (by omega) (FrS.trans f2 f3 (fun _ _ q => q)) hM3 ?_
                    rw [← hw2, List.append_assoc]
                    rfl
                exact LG _ _ Bk w' (Int.le_refl _) (by omega) rfl f hMk hw
              · rw [if_pos (Or.inr z2), List.nil_append] at hw; exact go hw
            · rw [if_pos e36] at hw
              refine R_say hm hMk (by decide) (by decide) (fun B' f3 hM3 => ⟨rfl, ?_⟩)
              unfold r_substitute_54 r_substitute_132
              rw [show i + 1 + 1 = i + 2 by omega]
              refine ih (i + 2) B' (w' ++ [36]) (by omega) (by omega) (by omega) (FrS.trans f f3 (fun _ _ q => q)) hM3 hvs ?_
              rw [← hw, List.append_assoc]
              rfl
          · rw [if_neg hc] at hvs
            exact absurd hvs (by simp)
        · rw [if_neg h36] at hw hvs
          refine R_say hm hMk hr.2.1 hr.2.2 (fun B' f3 hM3 => ⟨rfl, ?_⟩)
          unfold r_substitute_31 r_substitute_132
          refine ih (i + 1) B' (w' ++ [rd i]) (by omega) (by omega) (by omega) (FrS.trans f f3 (fun _ _ q => q)) hM3 hvs ?_
          rw [← hw, List.append_assoc]
          rfl
  refine r_substitute_0_ok hm ?_
  unfold r_substitute_0
  exact L 1201 0 B w (Int.le_refl _) (by omega) (by omega) FrS.refl hM hv rfl
end RREPL
