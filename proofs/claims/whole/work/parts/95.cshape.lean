/-! THE CLASS: the shapes of its objects; rules for calls with known ends -/
def shL : List Int := [11, 6, 6181, 6181, 6181, 6181, 6181, 6181, 8, 16101, 185] ++ ((List.range 7).map (fun _ => [6, 6181, 6181, 6181, 6181, 6181, 6181, 8, 16101])).flatten ++ [144, 2, 10100, 2, 10100, 2, 10100, 2, 10100, 301, 2, 12100, 2, 12100, 2, 10100, 9, 4181, 4181, 4181, 4181, 4181, 4181, 4181, 8, 16101, 7, 1, 10, 5, 20581, 3, 10341, 301, 4, 6121, 4, 6121]
def shp (a : Nat) : Int := shL.getD a 0
/-- the shapes stand -/
def SH (B : qB) : Prop := (∀ a, a < 112 → B a (-1) = shp a) ∧ B 1000000000 (-1) = 421
/-- a is an object of class k, by its number -/
def ob (k a : Nat) : Prop := shp a = k + 1 ∧ a < 112 ∧ k < 12
/-- a is a row of type t with n elements, by its number -/
def oa (t a : Nat) (n : Int) : Prop := shp a = 100 + t + 10 * n ∧ a < 112 ∧ t < 6 ∧ 0 ≤ n
theorem SH.o {B : qB} {k a : Nat} (h : SH B) (ha : ob k a) : isO B k a := ⟨by rw [h.1 a ha.2.1]; exact ha.1, ha.2.2⟩
theorem SH.a {B : qB} {t a : Nat} {n : Int} (h : SH B) (ha : oa t a n) : isA B t a n := ⟨by rw [h.1 a ha.2.1]; exact ha.1, ha.2.2⟩
theorem SH.k {B : qB} (h : SH B) : isA B 1 1000000000 32 := ⟨h.2, by decide, by decide⟩
theorem SH_u2 {B : qB} {b : Nat} {x z : Int} (h : SH B) (hx : 0 ≤ x) : SH (u2 B b x z) := ⟨fun a ha => by rw [u2_idx (by omega)]; exact h.1 a ha, by rw [u2_idx (by omega)]; exact h.2⟩
theorem SH_same {B B' : qB} (h : SH B) (h1 : ∀ a, B' a (-1) = B a (-1)) : SH B' := ⟨fun a ha => by rw [h1]; exact h.1 a ha, by rw [h1]; exact h.2⟩
theorem ob.lt {k a : Nat} (h : ob k a) : a < 1000000000 := by have := h.2.1; omega
theorem oa.lt {t a : Nat} {n : Int} (h : oa t a n) : a < 1000000000 := by have := h.2.1; omega
theorem sh_all {P : Nat → Bool} (h : (List.range 112).all P = true) {a : Nat} (ha : a < 112) : P a = true := List.all_eq_true.mp h a (List.mem_range.mpr ha)
set_option maxRecDepth 100000 in
theorem sh5 : (List.range 112).all (fun a => !decide (shp a = 6) || ((List.range 6).all (fun j => decide (shp (a + 1 + j) = 6181 ∧ a + 1 + j < 112)) && decide (shp (a + 7) = 8 ∧ a + 7 < 112))) = true := by decide +kernel
set_option maxRecDepth 100000 in
theorem sh7 : (List.range 112).all (fun a => !decide (shp a = 8) || decide (shp (a + 1) = 16101 ∧ a + 1 < 112)) = true := by decide +kernel
set_option maxRecDepth 100000 in
theorem sh3 : (List.range 112).all (fun a => !decide (shp a = 4) || decide (shp (a + 1) = 6121 ∧ a + 1 < 112)) = true := by decide +kernel
set_option maxRecDepth 100000 in
theorem sh1 : (List.range 112).all (fun a => !decide (shp a = 2) || decide ((shp (a + 1) = 10100 ∨ shp (a + 1) = 12100) ∧ a + 1 < 112)) = true := by decide +kernel
/-- how many bytes a row of bytes may have -/
def bl (a : Nat) : Int := (shp (a + 1) - 100) / 10
theorem oa5 {a : Nat} (h : ob 5 a) (j : Nat) (hj : j < 6) : oa 1 (a + 1 + j) 608 := by
  have := sh_all sh5 h.2.1
  have e : shp a = 6 := h.1
  rw [decide_eq_true e] at this
  simp only [Bool.not_true, Bool.false_or, Bool.and_eq_true] at this
  have h2 := of_decide_eq_true (List.all_eq_true.mp this.1 j (List.mem_range.mpr hj))
  exact ⟨h2.1, h2.2, by decide, by decide⟩
theorem ob57 {a : Nat} (h : ob 5 a) : ob 7 (a + 7) := by
  have := sh_all sh5 h.2.1
  have e : shp a = 6 := h.1
  rw [decide_eq_true e] at this
  simp only [Bool.not_true, Bool.false_or, Bool.and_eq_true] at this
  have h2 := of_decide_eq_true this.2
  exact ⟨h2.1, h2.2, by decide⟩
theorem oa7 {a : Nat} (h : ob 7 a) : oa 1 (a + 1) 1600 := by
  have := sh_all sh7 h.2.1
  have e : shp a = 8 := h.1
  rw [decide_eq_true e] at this
  simp only [Bool.not_true, Bool.false_or] at this
  have h2 := of_decide_eq_true this
  exact ⟨h2.1, h2.2, by decide, by decide⟩
theorem oa3 {a : Nat} (h : ob 3 a) : oa 1 (a + 1) 602 := by
  have := sh_all sh3 h.2.1
  have e : shp a = 4 := h.1
  rw [decide_eq_true e] at this
  simp only [Bool.not_true, Bool.false_or] at this
  have h2 := of_decide_eq_true this
  exact ⟨h2.1, h2.2, by decide, by decide⟩
theorem bl_or {a : Nat} (h : ob 1 a) : bl a = 1000 ∨ bl a = 1200 := by
  have := sh_all sh1 h.2.1
  have e : shp a = 2 := h.1
  rw [decide_eq_true e] at this
  simp only [Bool.not_true, Bool.false_or] at this
  have h2 := of_decide_eq_true this
  unfold bl
  rcases h2.1 with q | q <;> rw [q] <;> decide
theorem oa1 {a : Nat} (h : ob 1 a) : oa 0 (a + 1) (bl a) := by
  have := sh_all sh1 h.2.1
  have e : shp a = 2 := h.1
  rw [decide_eq_true e] at this
  simp only [Bool.not_true, Bool.false_or] at this
  have h2 := of_decide_eq_true this
  refine ⟨?_, h2.2, by decide, by rcases bl_or h with q | q <;> omega⟩
  unfold bl
  rcases h2.1 with q | q <;> rw [q] <;> decide
theorem bl_le {a : Nat} (h : ob 1 a) : bl a ≤ 67108864 := by rcases bl_or h with q | q <;> omega
section CP
variable {h1 : qH} {d k pc : Nat} {L : List (Option Value)} {st : List Value} {B : qB} {Q : qO → qB → Prop}
/-- a call of which the end is known -/
theorem y_virtP {idx own k' K np n b : Nat} {as r : List Value} {v : Value} {B1 : qB} (hd : decode (q_ms k).2.2.1 pc = .ok (.invokevirtual idx, 3)) (hown : (q_ms k).2.1 = own) (hmt : q_mth own idx = some k') (hk : (q_ms k').1 = 0 ∧ (q_ms k').2.1 = K ∧ (q_ms k').2.2.2.2.2.1 = np) (hlen : as.length = np) {nL : Nat} (hN : (q_ms k').2.2.2.1 = nL) (hs1 : Nat.ble (lg_sl (.ref b :: as)).length nL = true) (hs2 : Nat.ble nL 80 = true) (hs3 : Nat.ble (r.map fun v => v.category).sum 8 = true) (hcat : as.all (fun v => v.category == 1) = true) (ho : isO B K b)
    (wc : qY h1 d k' 0 ((.ref b :: as).map some ++ List.replicate n none) [] B (fun o B' => o = .inl (some v) ∧ B' = B1)) (w : qY h1 (d + 1) k (pc + 3) L (v :: r) B1 Q) : qY h1 (d + 1) k pc L (as.reverse ++ .ref b :: r) B Q :=
  y_virt hd hown hmt hk hlen hN hs1 hs2 hs3 hcat ⟨ho, wc.mono (Nat.le_refl _) (fun o B' h => Or.inl ⟨some v, h.1, by rw [h.2]; exact w⟩)⟩
theorem y_virtV {idx own k' K np n b : Nat} {as r : List Value} {B1 : qB} (hd : decode (q_ms k).2.2.1 pc = .ok (.invokevirtual idx, 3)) (hown : (q_ms k).2.1 = own) (hmt : q_mth own idx = some k') (hk : (q_ms k').1 = 0 ∧ (q_ms k').2.1 = K ∧ (q_ms k').2.2.2.2.2.1 = np) (hlen : as.length = np) {nL : Nat} (hN : (q_ms k').2.2.2.1 = nL) (hs1 : Nat.ble (lg_sl (.ref b :: as)).length nL = true) (hs2 : Nat.ble nL 80 = true) (hs3 : Nat.ble (r.map fun v => v.category).sum 8 = true) (hcat : as.all (fun v => v.category == 1) = true) (ho : isO B K b)
    (wc : qY h1 d k' 0 ((.ref b :: as).map some ++ List.replicate n none) [] B (fun o B' => o = .inl none ∧ B' = B1)) (w : qY h1 (d + 1) k (pc + 3) L r B1 Q) : qY h1 (d + 1) k pc L (as.reverse ++ .ref b :: r) B Q :=
  y_virt hd hown hmt hk hlen hN hs1 hs2 hs3 hcat ⟨ho, wc.mono (Nat.le_refl _) (fun o B' h => Or.inl ⟨none, h.1, by rw [h.2]; exact w⟩)⟩
theorem y_statP {idx own k' np n : Nat} {as r : List Value} {v : Value} {B1 : qB} (hd : decode (q_ms k).2.2.1 pc = .ok (.invokestatic idx, 3)) (hown : (q_ms k).2.1 = own) (hmt : q_mth own idx = some k') (hmm : q_mm own idx = none ∧ q_cpy own idx = false) (hk : (q_ms k').1 = 1 ∧ (q_ms k').2.2.2.2.2.1 = np) (hlen : as.length = np) {nL : Nat} (hN : (q_ms k').2.2.2.1 = nL) (hs1 : Nat.ble (lg_sl as).length nL = true) (hs2 : Nat.ble nL 80 = true) (hs3 : Nat.ble (r.map fun v => v.category).sum 8 = true) (hcat : as.all (fun v => v.category == 1) = true)
    (wc : qY h1 d k' 0 (as.map some ++ List.replicate n none) [] B (fun o B' => o = .inl (some v) ∧ B' = B1)) (w : qY h1 (d + 1) k (pc + 3) L (v :: r) B1 Q) : qY h1 (d + 1) k pc L (as.reverse ++ r) B Q :=
  y_stat hd hown hmt hmm hk hlen hN hs1 hs2 hs3 hcat (wc.mono (Nat.le_refl _) (fun o B' h => Or.inl ⟨some v, h.1, by rw [h.2]; exact w⟩))
theorem y_statV {idx own k' np n : Nat} {as r : List Value} {B1 : qB} (hd : decode (q_ms k).2.2.1 pc = .ok (.invokestatic idx, 3)) (hown : (q_ms k).2.1 = own) (hmt : q_mth own idx = some k') (hmm : q_mm own idx = none ∧ q_cpy own idx = false) (hk : (q_ms k').1 = 1 ∧ (q_ms k').2.2.2.2.2.1 = np) (hlen : as.length = np) {nL : Nat} (hN : (q_ms k').2.2.2.1 = nL) (hs1 : Nat.ble (lg_sl as).length nL = true) (hs2 : Nat.ble nL 80 = true) (hs3 : Nat.ble (r.map fun v => v.category).sum 8 = true) (hcat : as.all (fun v => v.category == 1) = true)
    (wc : qY h1 d k' 0 (as.map some ++ List.replicate n none) [] B (fun o B' => o = .inl none ∧ B' = B1)) (w : qY h1 (d + 1) k (pc + 3) L r B1 Q) : qY h1 (d + 1) k pc L (as.reverse ++ r) B Q :=
  y_stat hd hown hmt hmm hk hlen hN hs1 hs2 hs3 hcat (wc.mono (Nat.le_refl _) (fun o B' h => Or.inl ⟨none, h.1, by rw [h.2]; exact w⟩))
theorem y_stat3P {idx own k' np n : Nat} {as r : List Value} {v : Value} {B1 : qB} (hd : decode (q_ms k).2.2.1 pc = .ok (.invokestatic idx, 3)) (hown : (q_ms k).2.1 = own) (hmt : q_mth own idx = some k') (hmm : q_mm own idx = none ∧ q_cpy own idx = false) (hk : (q_ms k').1 = 3 ∧ (q_ms k').2.2.2.2.2.1 = np) (hlen : as.length = np) {nL : Nat} (hN : (q_ms k').2.2.2.1 = nL) (hs1 : Nat.ble (lg_sl as).length nL = true) (hs2 : Nat.ble nL 80 = true) (hs3 : Nat.ble (r.map fun v => v.category).sum 8 = true) (hcat : as.all (fun v => v.category == 1) = true)
    (wc : qY h1 d k' 0 (as.map some ++ List.replicate n none) [] B (fun o B' => o = .inl (some v) ∧ B' = B1)) (w : qY h1 (d + 1) k (pc + 3) L (v :: r) B1 Q) : qY h1 (d + 1) k pc L (as.reverse ++ r) B Q :=
  y_stat3 hd hown hmt hmm hk hlen hN hs1 hs2 hs3 hcat (wc.mono (Nat.le_refl _) (fun o B' h => ⟨some v, h.1, by rw [h.2]; exact w⟩))
theorem y_stat3V {idx own k' np n : Nat} {as r : List Value} {B1 : qB} (hd : decode (q_ms k).2.2.1 pc = .ok (.invokestatic idx, 3)) (hown : (q_ms k).2.1 = own) (hmt : q_mth own idx = some k') (hmm : q_mm own idx = none ∧ q_cpy own idx = false) (hk : (q_ms k').1 = 3 ∧ (q_ms k').2.2.2.2.2.1 = np) (hlen : as.length = np) {nL : Nat} (hN : (q_ms k').2.2.2.1 = nL) (hs1 : Nat.ble (lg_sl as).length nL = true) (hs2 : Nat.ble nL 80 = true) (hs3 : Nat.ble (r.map fun v => v.category).sum 8 = true) (hcat : as.all (fun v => v.category == 1) = true)
    (wc : qY h1 d k' 0 (as.map some ++ List.replicate n none) [] B (fun o B' => o = .inl none ∧ B' = B1)) (w : qY h1 (d + 1) k (pc + 3) L r B1 Q) : qY h1 (d + 1) k pc L (as.reverse ++ r) B Q :=
  y_stat3 hd hown hmt hmm hk hlen hN hs1 hs2 hs3 hcat (wc.mono (Nat.le_refl _) (fun o B' h => ⟨none, h.1, by rw [h.2]; exact w⟩))
end CP
/-- how long a row of numbers is -/
def el (B : qB) (e : Nat) : Int := (B e (-1) - 101) / 10
theorem SH_cp {B : qB} {a0 a1 : Nat} {sp dp n : Int} (h : SH B) (hd : 0 ≤ dp) : SH (cpC B a0 sp a1 dp n) := SH_same h (fun a => by unfold cpC; rw [if_neg (by omega)])
/-- truth as a number -/
theorem R32_bi (b : Bool) : R32 (bi b) := by cases b <;> exact ⟨by decide, by decide⟩
theorem bi_n0 {b : Bool} : ¬ bi b = 0 ↔ b = true := by cases b <;> decide
theorem bi_1 {b : Bool} : bi b = 1 ↔ b = true := by cases b <;> decide
theorem bi_t : bi true = 1 := rfl
theorem bi_f : bi false = 0 := rfl
theorem bi_z {b : Bool} : bi b = 0 ↔ b = false := by cases b <;> decide
