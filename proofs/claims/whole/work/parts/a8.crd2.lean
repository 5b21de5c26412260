/-! THE CLASS'S READER: atoms -/
def kcl (wh z : Int) (c : Nat) : Bool := Bool.xor (decide (z = 1)) (wb ((q_CLS (wh + (c : Int) / 32).toNat).toInt) ((c : Int) % 32).toNat)
def CKB (B : qB) : Prop := ∀ j : Nat, j < 32 → B 1000000000 (j : Int) = (q_CLS j).toInt
set_option maxRecDepth 100000 in
theorem kcl_10 : ∀ c : Fin 256, kcl 24 1 c = decide ((c : Nat) ≠ 10) := by decide +kernel
set_option maxRecDepth 100000 in
theorem kcl_d : ∀ c : Fin 256, kcl 0 0 c = kindP 100 c ∧ kcl 0 1 c = kindP 68 c ∧ kcl 8 0 c = kindP 119 c ∧ kcl 8 1 c = kindP 87 c ∧ kcl 16 0 c = kindP 115 c ∧ kcl 16 1 c = kindP 83 c := by decide +kernel
theorem isKl_i {s : Int} : isKl s = true ↔ (s = 100 ∨ s = 119 ∨ s = 115 ∨ s = 68 ∨ s = 87 ∨ s = 83) := by
  unfold isKl
  simp only [Bool.or_eq_true, decide_eq_true_eq]
  omega
theorem clsO_i {s : Int} : clsO s ≠ -1 ↔ isKl s = true := by
  rw [isKl_i]
  unfold clsO
  constructor
  · intro h
    split at h
    · omega
    · split at h
      · omega
      · split at h
        · omega
        · exact absurd rfl h
  · intro h
    rcases h with rfl | rfl | rfl | rfl | rfl | rfl <;> decide
theorem clsO_bd (s : Int) : -1 ≤ clsO s ∧ clsO s ≤ 16 := by
  unfold clsO
  split
  · decide
  · split
    · decide
    · split <;> decide
theorem kcl_k {s : Int} (h : isKl s = true) (c : Nat) (hc : c < 256) : kcl (clsO s) (if s < 97 then 1 else 0) c = kindP s c := by
  have k := kcl_d ⟨c, hc⟩
  rcases isKl_i.mp h with rfl | rfl | rfl | rfl | rfl | rfl
  · exact k.1
  · exact k.2.2.1
  · exact k.2.2.2.2.1
  · exact k.2.1
  · exact k.2.2.2.1
  · exact k.2.2.2.2.2
/-- sets have changed, and their number -/
theorem RS_set {sg : Int → Int} {B0 B B' : qB} (h : RS sg B0 B) (f : ∀ b x, ¬ (b = 99 ∧ 0 ≤ x) → ¬ (b = 98 ∧ x = 1) → B' b x = B b x) (m0 : 0 ≤ B' 98 1) (m1 : B' 98 1 ≤ B 100 2) : RS sg B0 B' := by
  have h0 := h
  obtain ⟨g1, g2, g3, g4, g5, g6, g7, g8, g9, g10, g11, g12⟩ := h
  have o1 : ∀ x, B' 100 x = B 100 x := fun x => f 100 x (by omega) (by omega)
  have o2 : ∀ x, B' 97 x = B 97 x := fun x => f 97 x (by omega) (by omega)
  have o3 : B' 90 8 = B 90 8 := f 90 8 (by omega) (by omega)
  exact RS.mk' h0 (SH_same g1 (fun a => f a (-1) (by omega) (by omega))) (fun b x q => f b x (by omega) (by omega)) (o1 1) (by rw [o1]; exact m1) (by rw [o1]; exact g2.2.2.2) (by rw [o3]; exact g6) m0 (fun x x0 x1 => by rw [o2]; exact g8 x x0 x1) (by rw [o1]; exact g9) (by rw [o1, o1]; exact g10) (by rw [o1]; exact g11) (by rw [o1]; exact g12)
/-- one part and one set more -/
def NSt (sg : Int → Int) (B0 B B' : qB) (K : Nat → Bool) : Prop := RS sg B0 B' ∧ (∀ x, B' 100 x = B 100 x) ∧ B' 90 8 = B 90 8 + 1 ∧ B' 98 1 = B 98 1 + 1 ∧ (∀ b x, 91 ≤ b → b ≤ 97 → 0 ≤ x → x < B 90 8 → B' b x = B b x) ∧ (∀ x, 0 ≤ x → x < 8 * B 98 1 → B' 99 x = B 99 x) ∧ B' 91 (B 90 8) = 2 ∧ B' 92 (B 90 8) = B 98 1 ∧ B' 97 (B 90 8) = 1 ∧ ∀ c : Nat, c < 256 → hoC B' 98 (B 98 1) c = K c
/-- an atom of one part -/
theorem XO_1 {sg : Int → Int} {B0 B B' : qB} {e : qT} {a : Int} (h : RS sg B0 B) (h' : RS sg B0 B') (h3 : B' 100 3 = -1) (h6 : B' 100 6 = B 100 6) (ha : B' 100 2 = a) (a0 : B 100 2 < a) (a1 : a ≤ 200) (hs : B' 90 8 = B 90 8 + 1) (hf : ∀ b x, 91 ≤ b → b ≤ 97 → 0 ≤ x → x < B 90 8 → B' b x = B b x) (hm : B 98 1 ≤ B' 98 1) (hc : ∀ x, 0 ≤ x → x < 8 * B 98 1 → B' 99 x = B 99 x) (hk : B' 100 7 = B 100 7) (hw : B' 97 (B 90 8) = 1) (he : wR e = 1) (ht : aT e = false) (hn : Nd B' (B' 98 1) e (B' 90 8) 2 (B 90 8)) (hxk : ∀ s, e = .var s → (B' 91 (B 90 8) = 2 ↔ sKS sg (B 100 2))) : XO sg B0 B B' e (B 90 8) :=
  ⟨⟨h', h3, h6, by omega, by omega, by omega, by omega, hf, hm, hc, by omega⟩, hn, Int.le_refl _, by rw [hw, he]; decide, ⟨fun _ => ht, fun _ => hk⟩, by omega, hxk⟩
theorem Nd_num {B : qB} {M N q k : Int} (hk : k ≠ 0) (h1 : 1 ≤ q) (h2 : q < N) (h3 : B 91 q = k + 2) : Nd B M (.num k) N 2 q := by
  unfold Nd
  rw [if_pos rfl]
  exact ⟨hk, h1, h2, h3⟩
theorem Nd_set {B : qB} {M N q : Int} {K : Nat → Bool} (h1 : 1 ≤ q) (h2 : q < N) (h3 : B 91 q = 2) (h4 : 0 ≤ B 92 q) (h5 : B 92 q < M) (h6 : ∀ c : Nat, c < 256 → hoC B 98 (B 92 q) c = K c) : Nd B M (.var (mkset K)) N 2 q := by
  unfold Nd
  exact ⟨rfl, Or.inr ⟨⟨h1, h2, h3⟩, h4, h5, fun c hc => by rw [mkset_bit _ _ hc, h6 c hc]⟩⟩
theorem Nd_byte {B : qB} {M N q : Int} {s : Int} (h1 : 1 ≤ q) (h2 : q < N) (h3 : B 91 q = 1) (h4 : B 92 q = s) (h5 : 0 ≤ s) (h6 : s ≤ 255) : Nd B M (.var (mkset (fun c => decide ((c : Int) = s)))) N 2 q := by
  unfold Nd
  exact ⟨rfl, Or.inl ⟨⟨h1, h2, h3⟩, by omega, by omega, fun c hc => by rw [mkset_bit _ _ hc, h4]⟩⟩
section CRD2
variable {h1 : qH} {d : Nat} {Q : qO → qB → Prop} {sg : Int → Int} {B0 B : qB}
theorem R_addClass {wh z : Int} (hd : 3 ≤ d) (h : RS sg B0 B) (hK : CKB B0) (hm : B 98 1 + 1 ≤ B 100 2) (hm2 : B 98 1 < 200) (hs : B 90 8 < 408) (w0 : 0 ≤ wh) (w1 : wh ≤ 24) (hz : z = 0 ∨ z = 1) (w : ∀ B', NSt sg B0 B B' (kcl wh z) → Q (.inl (some (iv (B 90 8)))) B') : qY h1 d n_Re_addClass 0 [some (.ref 100), some (iv wh), some (iv z), none] [] B Q := by
  obtain ⟨d, rfl, he⟩ := d_pos hd
  have o98 : ob 7 98 := ⟨by decide, by decide, by decide⟩
  have m0 := h.2.2.2.2.2.2.1.1
  refine y_wk (c_Re_addClass_0_ok he h.1 ?_) ⟨rfl, rfl, rfl, trivial⟩
  refine Y_Se_open he h.1 o98 m0 hm2 (fun B1 f1 e1 => ⟨_, rfl, ?_⟩)
  have g1 : ∀ b x, ¬ (b = 99 ∧ 0 ≤ x) → ¬ (b = 98 ∧ x = 1) → (u2 B1 98 1 (B 98 1 + 1)) b x = B b x := fun b x q1 q2 => by
    by_cases hb : b = 98
    · rw [hb, u2_idx (fun e => q2 ⟨hb, e⟩)]; exact f1 98 x (by omega)
    · rw [u2_bank hb]; exact f1 b x (by omega)
  have m1 : (u2 B1 98 1 (B 98 1 + 1)) 98 1 = B 98 1 + 1 := u2_same
  have R1 : RS sg B0 (u2 B1 98 1 (B 98 1 + 1)) := RS_set h g1 (by omega) (by omega)
  have e1' : ∀ c, 0 ≤ c → c ≤ 255 → hoC (u2 B1 98 1 (B 98 1 + 1)) 98 (B 98 1) c = false := fun c c0 c1 => by
    rw [hoC_fr (B := B1) m0 c1 (fun x _ _ => u2_bank (by decide))]; exact e1 c c0 c1
  have f99 : ∀ x, 0 ≤ x → x < 8 * B 98 1 → (u2 B1 98 1 (B 98 1 + 1)) 99 x = B 99 x := fun x x0 x1 => by rw [u2_bank (by decide)]; exact f1 99 x (by omega)
  generalize u2 B1 98 1 (B 98 1 + 1) = B2 at g1 m1 R1 e1' f99
  refine ⟨R1.1, ?_⟩
  refine Y_Se_addClass he R1.1 o98 m0 hm2 w0 w1 hz (fun B3 f3 e3 => ⟨rfl, ?_⟩)
  have g3 : ∀ b x, ¬ (b = 99 ∧ 0 ≤ x) → ¬ (b = 98 ∧ x = 1) → B3 b x = B2 b x := fun b x q1 _ => f3 b x (by omega)
  have m3 : B3 98 1 = B 98 1 + 1 := by rw [f3 98 1 (by omega)]; exact m1
  have a2 : B2 100 2 = B 100 2 := g1 100 2 (by omega) (by omega)
  have R3 : RS sg B0 B3 := RS_set R1 g3 (by omega) (by omega)
  have s3 : B3 90 8 = B 90 8 := by rw [f3 90 8 (by omega)]; exact g1 90 8 (by omega) (by omega)
  have h3 : ∀ c : Nat, c < 256 → hoC B3 98 (B 98 1) c = kcl wh z c := fun c hc => by
    rw [e3 c (by omega) (by omega), e1' c (by omega) (by omega), Bool.false_or]
    unfold kcl
    have : B2 1000000000 (wh + (c : Int) / 32) = (q_CLS (wh + (c : Int) / 32).toNat).toInt := by
      rw [R1.2.2.2.1 1000000000 _ (by omega), ← hK (wh + (c : Int) / 32).toNat (by omega)]
      congr 1
      omega
    rw [this]
  have f399 : ∀ x, 0 ≤ x → x < 8 * B 98 1 → B3 99 x = B 99 x := fun x x0 x1 => by rw [f3 99 x (by omega)]; exact f99 x x0 x1
  refine ⟨R3.1, R3.2.2.2.2.2.1.1, R3.2.2.2.2.2.1.2, ?_⟩
  have av : adV B3 = B 90 8 := by unfold adV; rw [if_pos (by omega), s3]
  rw [av]
  have n := adT_n (B := B3) (k := 2) (v := B 98 1) (i := 0) (z := 1) (by omega)
  rw [s3] at n
  refine w _ ⟨RS_ad R3 (by decide) ⟨by decide, by decide⟩, fun x => ?_, n.1, ?_, fun b x b0 b1 x0 x1 => ?_, fun x x0 x1 => ?_, n.2.1, n.2.2.1, n.2.2.2.2.2, fun c hc => ?_⟩
  · rw [adT_o 100 x (by omega) (by omega), f3 100 x (by omega)]; exact g1 100 x (by omega) (by omega)
  · rw [adT_o 98 1 (by omega) (by omega)]; exact m3
  · rw [adT_o b x (by omega) (by omega), f3 b x (by omega)]; exact g1 b x (by omega) (by omega)
  · rw [adT_o 99 x (by omega) (by omega)]; exact f399 x x0 x1
  · rw [hoC_fr (B := B3) m0 (by omega) (fun x _ _ => adT_o 99 x (by omega) (by omega))]; exact h3 c hc
theorem sAt_92 {a : Int} (h : sg a = 92) : sAt sg a = if sg (a + 1) = 98 then .ok (.num 3, a + 2) else if sg (a + 1) = 66 then .ok (.num 4, a + 2) else match sEsc sg (a + 1) with
    | .error w => .error w
    | .ok (K, b) => .ok (.var (mkset K), b) := by
  unfold sAt
  rw [if_neg (by rw [h]; decide), if_neg (by omega), if_neg (by omega), if_pos h]
  rfl
theorem BP.mono {l l' w : Int} {B' : qB} (h : BP sg B0 l B B' w) (hl : l' ≤ l) : BP sg B0 l' B B' w := ⟨h.1, h.2.1, h.2.2.1, h.2.2.2.1, by have := h.2.2.2.2; omega⟩
/-- a part more, in a state at a -/
theorem XO_ad {k v a : Int} {e : qT} (h : RS sg B0 B) (h3 : B 100 3 = -1) (hs : B 90 8 < 408) (a0 : B 100 2 < a) (a1 : a ≤ 200) (he : wR e = 1) (ht : aT e = false) (hn : ∀ B', B' 91 (B 90 8) = k → B' 92 (B 90 8) = v → ∀ M, Nd B' M e (B 90 8 + 1) 2 (B 90 8)) (hxk : ∀ s, e = .var s → (k = 2 ↔ sKS sg (B 100 2))) : XO sg B0 B (adT (u2 B 100 2 a) k v 0 1) e (B 90 8) ∧ (adT (u2 B 100 2 a) k v 0 1) 100 2 = a ∧ (adT (u2 B 100 2 a) k v 0 1) 100 5 = B 100 5 := by
  have R1 := RS_at h (Int.le_of_lt a0) (by omega)
  have s1 : (u2 B 100 2 a) 90 8 = B 90 8 := u2_bank (by decide)
  have n := adT_n (B := u2 B 100 2 a) (k := k) (v := v) (i := 0) (z := 1) (by omega)
  rw [s1] at n
  have o1 : ∀ x, x ≠ 2 → adT (u2 B 100 2 a) k v 0 1 100 x = B 100 x := fun x hx => by rw [adT_o 100 x (by omega) (by omega), u2_idx hx]
  have o2 : adT (u2 B 100 2 a) k v 0 1 100 2 = a := by rw [adT_o 100 2 (by omega) (by omega), u2_same]
  have o98 : adT (u2 B 100 2 a) k v 0 1 98 1 = B 98 1 := by rw [adT_o 98 1 (by omega) (by omega), u2_bank (by decide)]
  refine ⟨XO_1 h (RS_ad R1 (by decide) ⟨by decide, by decide⟩) (by rw [o1 3 (by decide)]; exact h3) (o1 6 (by decide)) o2 a0 a1 n.1 (fun b x b0 b1 x0 x1 => ?_) (by omega) (fun x x0 x1 => ?_) (o1 7 (by decide)) n.2.2.2.2.2 he ht ?_ (fun s hs' => by rw [n.2.1]; exact hxk s hs'), o2, o1 5 (by decide)⟩
  · rw [adT_o b x (by omega) (by omega), u2_bank (by omega)]
  · rw [adT_o 99 x (by omega) (by omega), u2_bank (by decide)]
  · rw [n.1]; exact hn _ n.2.1 n.2.2.1 _
/-- a set that has been read -/
theorem XO_st {a : Int} {K : Nat → Bool} {B' : qB} (h : RS sg B0 B) (h3 : B 100 3 = -1) (a0 : B 100 2 < a) (a1 : a ≤ 200) (hN : NSt sg B0 (u2 B 100 2 a) B' K) (hsk : sKS sg (B 100 2)) : XO sg B0 B B' (.var (mkset K)) (B 90 8) ∧ B' 100 2 = a ∧ B' 100 5 = B 100 5 := by
  obtain ⟨n1, n2, n3, n4, n5, n6, n7, n8, n9, n10⟩ := hN
  have s1 : (u2 B 100 2 a) 90 8 = B 90 8 := u2_bank (by decide)
  have t1 : (u2 B 100 2 a) 98 1 = B 98 1 := u2_bank (by decide)
  have o1 : ∀ x, x ≠ 2 → B' 100 x = B 100 x := fun x hx => by rw [n2, u2_idx hx]
  have o2 : B' 100 2 = a := by rw [n2, u2_same]
  rw [s1] at n3 n5 n7 n8 n9
  rw [t1] at n4 n6 n8 n10
  have m0 := h.2.2.2.2.2.2.1.1
  have s0 := h.2.2.2.2.2.1.1
  refine ⟨XO_1 h n1 (by rw [o1 3 (by decide)]; exact h3) (o1 6 (by decide)) o2 a0 a1 n3 (fun b x b0 b1 x0 x1 => by rw [n5 b x b0 b1 x0 x1, u2_bank (by omega)]) (by omega) (fun x x0 x1 => by rw [n6 x x0 x1, u2_bank (by decide)]) (o1 7 (by decide)) n9 rfl rfl ?_ (fun s _ => ⟨fun _ => hsk, fun _ => n7⟩), o2, o1 5 (by decide)⟩
  exact Nd_set s0 (by omega) n7 (by omega) (by omega) (fun c hc => by rw [n8]; exact n10 c hc)
theorem R_readEscape (hd : 4 ≤ d) (h : RS sg B0 B) (hK : CKB B0) (h3 : B 100 3 = -1) (hs : B 90 8 < 408) (hat : sg (B 100 2) = 92) (kG : ∀ e a, sAt sg (B 100 2) = .ok (e, a) → ∀ B' v, XO sg B0 B B' e v → B' 100 2 = a → B' 100 5 = B 100 5 → Q (.inl (some (iv v))) B') (kB : ∀ w, sAt sg (B 100 2) = .error w → ∀ B' v, BP sg B0 10 B B' w → 0 ≤ v → v < 408 → Q (.inl (some (iv v))) B') : qY h1 d n_Re_readEscape 0 [some (.ref 100), none, none] [] B Q := by
  obtain ⟨d, rfl, he⟩ := d_pos hd
  have a9 := (h.lt (i := B 100 2) (by omega)).1
  have A0 := h.2.1.2.2.1
  have m0 := h.2.2.2.2.2.2.1
  have s0 := h.2.2.2.2.2.1.1
  have sA := sAt_92 hat
  refine y_wk (c_Re_readEscape_0_ok (by omega) h.1 ?_) ⟨rfl, trivial⟩
  unfold c_Re_readEscape_0
  simp only [h.2.2.1]
  refine ⟨h.2.1, h.R _, fun q => ?_, fun q => ⟨h.R3, ?_⟩⟩
  · have b9 := (h.lt q).1
    have bR := h.lt q
    have R2 := RS_at (z := B 100 2 + 2) h (by omega) (by omega)
    have s2 : (u2 B 100 2 (B 100 2 + 2)) 90 8 = B 90 8 := u2_bank (by decide)
    have av : adV (u2 B 100 2 (B 100 2 + 2)) = B 90 8 := by unfold adV; rw [if_pos (by omega), s2]
    -- \b and \B
    have k44 : ∀ k, sAt sg (B 100 2) = .ok (.num k, B 100 2 + 2) → (k = 3 ∨ k = 4) → Q (.inl (some (iv (B 90 8)))) (adT (u2 B 100 2 (B 100 2 + 2)) (k + 2) 0 0 1) := fun k hk k34 => by
      have x := XO_ad (k := k + 2) (v := 0) (e := .num k) h h3 hs (show B 100 2 < B 100 2 + 2 by omega) (by omega) (by show (if k = 0 then 0 else 1) = _; rw [if_neg (by omega)]) rfl (fun B' e1 _ M => Nd_num (by omega) s0 (by omega) e1) (fun s w => by cases w)
      exact kG _ _ hk _ _ x.1 x.2.1 x.2.2
    have k90 : ∀ z, z = (if sg (B 100 2 + 1) < 97 then 1 else 0) → isKl (sg (B 100 2 + 1)) = true → sg (B 100 2 + 1) ≠ 98 → sg (B 100 2 + 1) ≠ 66 → c_Re_readEscape_90 h1 d (clsO (sg (B 100 2 + 1))) z (u2 B 100 2 (B 100 2 + 2)) Q := fun z hz hk n1 n2 => by
      have cb := clsO_bd (sg (B 100 2 + 1))
      have cn := clsO_i.mpr hk
      have hE : sEsc sg (B 100 2 + 1) = .ok (kindP (sg (B 100 2 + 1)), B 100 2 + 1 + 1) := by
        unfold sEsc
        rw [if_neg (by omega), if_pos hk]
      refine R_addClass (by omega) R2 hK (by rw [u2_bank (by decide), u2_same]; omega) (by rw [u2_bank (by decide)]; omega) (by omega) (by omega) (by omega) (by rw [hz]; split <;> omega) (fun B' hN => ⟨_, rfl, hN.1.1, ?_⟩)
      have hN' : NSt sg B0 (u2 B 100 2 (B 100 2 + 2)) B' (kindP (sg (B 100 2 + 1))) := by
        obtain ⟨n1, n2, n3, n4, n5, n6, n7, n8, n9, n10⟩ := hN
        exact ⟨n1, n2, n3, n4, n5, n6, n7, n8, n9, fun c hc => by rw [n10 c hc, hz]; exact kcl_k hk c hc⟩
      have x := XO_st h h3 (by omega) (by omega) hN' (Or.inr (Or.inr ⟨hat, hk⟩))
      rw [s2]
      refine kG _ _ ?_ _ _ x.1 x.2.1 x.2.2
      rw [sA, if_neg n1, if_neg n2, hE]
      show Except.ok (_, B 100 2 + 1 + 1) = Except.ok (_, B 100 2 + 2)
      rw [show B 100 2 + 1 + 1 = B 100 2 + 2 by omega]
    have kErr : isKl (sg (B 100 2 + 1)) = false → (isLt (sg (B 100 2 + 1)) = true ∨ isDg (sg (B 100 2 + 1)) = true) → sg (B 100 2 + 1) ≠ 98 → sg (B 100 2 + 1) ≠ 66 → c_Re_readEscape_108 h1 d (sg (B 100 2 + 1)) (u2 B 100 2 (B 100 2 + 2)) Q := fun hk hl n1 n2 => by
      have hE : sAt sg (B 100 2) = .error (B 100 2 + 1) := by
        have : sEsc sg (B 100 2 + 1) = .error (B 100 2 + 1) := by
          unfold sEsc
          rw [if_neg (by omega), if_neg (by rw [hk]; decide), if_pos hl]
        rw [sA, if_neg n1, if_neg n2, this]
      have e2 : (u2 B 100 2 (B 100 2 + 2)) 100 2 - 1 = B 100 2 + 1 := by rw [u2_same]; omega
      have e3 : (u2 B 100 2 (B 100 2 + 2)) 100 3 = -1 := by rw [u2_idx (by decide)]; exact h3
      have R3 := RS_br (z := B 100 2 + 1) R2 (by omega) (by omega)
      refine ⟨R2.R3, ?_⟩
      rw [e2]
      have sb : (brC (u2 B 100 2 (B 100 2 + 2)) (B 100 2 + 1)) 90 8 = B 90 8 := by rw [brC_b _ _ _ _ (by decide)]; exact s2
      refine ⟨R3.2.2.2.2.2.1.1, R3.2.2.2.2.2.1.2, ?_⟩
      refine kB _ hE _ _ ⟨RS_ad R3 (by decide) ⟨by decide, by decide⟩, ?_, by omega, ?_, ?_⟩ ?_ ?_
      · rw [adT_o 100 3 (by omega) (by omega), brC_3, if_pos e3]
      · rw [adT_o 100 6 (by omega) (by omega), brC_at _ _ _ (by decide), u2_idx (by decide)]
      · rw [adT_o 100 2 (by omega) (by omega), brC_at _ _ _ (by decide), u2_same]; omega
      · unfold adV; rw [sb]; split <;> omega
      · unfold adV; rw [sb]; split <;> omega
    have kByte : isKl (sg (B 100 2 + 1)) = false → isLt (sg (B 100 2 + 1)) = false → isDg (sg (B 100 2 + 1)) = false → sg (B 100 2 + 1) ≠ 98 → sg (B 100 2 + 1) ≠ 66 → c_Re_readEscape_118 h1 d (sg (B 100 2 + 1)) (u2 B 100 2 (B 100 2 + 2)) Q := fun hk hl hg n1 n2 => by
      have hE : sEsc sg (B 100 2 + 1) = .ok (fun c => decide ((c : Int) = sg (B 100 2 + 1)), B 100 2 + 1 + 1) := by
        unfold sEsc
        rw [if_neg (by omega), if_neg (by rw [hk]; decide), if_neg (by rw [hl, hg]; decide)]
      refine ⟨by omega, by omega, ?_⟩
      rw [av]
      have x := XO_ad (k := 1) (v := sg (B 100 2 + 1)) (e := .var (mkset (fun c => decide ((c : Int) = sg (B 100 2 + 1))))) h h3 hs (show B 100 2 < B 100 2 + 2 by omega) (by omega) rfl rfl (fun B' e1 e2 M => Nd_byte s0 (by omega) e1 e2 (by omega) (by omega)) (fun s _ => ⟨fun w => absurd w (by decide), fun w => by
        rcases w with w | w | w
        · omega
        · omega
        · rw [hk] at w; cases w.2⟩)
      refine kG _ _ ?_ _ _ x.1 x.2.1 x.2.2
      rw [sA, if_neg n1, if_neg n2, hE]
      show Except.ok (_, B 100 2 + 1 + 1) = Except.ok (_, B 100 2 + 2)
      rw [show B 100 2 + 1 + 1 = B 100 2 + 2 by omega]
    refine ⟨fun q1 => ?_, fun q1 => ⟨fun q2 => ?_, fun q2 => ?_⟩⟩
    · refine ⟨h.R _, fun q2 => absurd q1 q2, fun _ => ⟨by omega, by omega, ?_⟩⟩
      rw [av]
      exact k44 3 (by rw [sA, if_pos q1]) (by omega)
    · have cb := clsO_bd (sg (B 100 2 + 1))
      refine ⟨⟨by omega, by omega⟩, fun q3 => ?_, fun q3 => ?_⟩
      · have hk : isKl (sg (B 100 2 + 1)) = false := by
          rw [← Bool.not_eq_true]
          exact fun w => clsO_i.mpr w q3
        refine ⟨fun q4 => kErr hk (Or.inl (bi_n0.mp q4)) q1 q2, fun q4 => ⟨fun q5 => kByte hk (bi_z.mp q4) (bi_z.mp q5) q1 q2, fun q5 => kErr hk (Or.inr (bi_n0.mp q5)) q1 q2⟩⟩
      · have hk := clsO_i.mp q3
        exact ⟨fun q4 => k90 0 (by rw [if_neg (by omega)]) hk q1 q2, fun q4 => k90 1 (by rw [if_pos q4]) hk q1 q2⟩
    · refine ⟨h.R _, fun _ => ⟨by omega, by omega, ?_⟩, fun q3 => absurd q3 q1⟩
      rw [av]
      exact k44 4 (by rw [sA, if_neg q1, if_pos q2]) (by omega)
  · have hE : sAt sg (B 100 2) = .error (B 100 2 + 1) := by
      have : sEsc sg (B 100 2 + 1) = .error (B 100 2 + 1) := by
        unfold sEsc
        rw [if_pos q]
      rw [sA, if_neg (by omega), if_neg (by omega), this]
    exact kB _ hE _ _ ⟨RS_br h (by omega) (by omega), by rw [brC_3, if_pos h3], by omega, brC_at _ _ _ (by decide), by rw [brC_at _ _ _ (by decide)]; omega⟩ (by decide) (by decide)
end CRD2
