/-! THE REFERENCE'S COMPILER: a node -/
section RND
variable {m : Nat} {h0 : qH} {d : Nat} {B : qB} {Q : qO → qB → Prop} {ctx : List Int} {a t x : Int}
theorem D_go (hm : m + 100 < 1000000000) (hX : CX B ctx a (t + 1)) (t0 : 0 ≤ t) (t1 : t < 5990) (h60 : B 60 t = 0) (h61 : B 61 t = x) (w : r_nodeOf_0 m h0 (d + 1) x (u2 B 64 0 t) (fun o B' => o = .inl none ∧ CL m h0 d B' Q)) : CL m h0 d B Q := by
  refine C_node hm hX.2.1 t0 (by omega) h60 ?_
  rw [h61]
  exact r_nodeOf_0_ok hm w
theorem D_empty (hm : m + 100 < 1000000000) (hX : CX B ctx a (t + 1)) (t0 : 0 ≤ t) (t1 : t < 5990) (h60 : B 60 t = 0) (h61 : B 61 t = x) (x0 : 0 ≤ x) (x1 : x < 3000) (h17 : B 17 x = 11) (k : CL m h0 d (u2 B 64 0 t) Q) : CL m h0 d B Q := by
  refine D_go hm hX t0 t1 h60 h61 ?_
  have e17 : (u2 B 64 0 t) 17 x = 11 := by rw [u2_bank (by decide)]; exact h17
  unfold r_nodeOf_0
  rw [e17]
  refine ⟨x0, x1, ⟨by decide, by decide⟩, fun _ => ⟨fun _ => ⟨fun _ => ⟨fun _ => ⟨fun q => absurd q (by decide), fun _ => ⟨fun q => absurd q (by decide), fun _ => ⟨fun _ => ?_, fun q => absurd q (by decide)⟩⟩⟩, fun q => absurd q (by decide)⟩, fun q => absurd q (by decide)⟩, fun q => absurd q (by decide)⟩, fun q => absurd q (by decide)⟩
  unfold r_nodeOf_268
  exact ⟨⟨by decide, by decide⟩, fun _ => ⟨fun _ => ⟨rfl, k⟩, fun q => absurd rfl q⟩, fun q => absurd q (by decide)⟩
theorem D_assert (hm : m + 100 < 1000000000) {j : Int} (hX : CX B ctx a (t + 1)) (t0 : 0 ≤ t) (t1 : t < 5990) (a1 : a < 6000) (h60 : B 60 t = 0) (h61 : B 61 t = x) (x0 : 0 ≤ x) (x1 : x < 3000) (j1 : 1 ≤ j) (j2 : j ≤ 4) (h17 : B 17 x = 6 + j) (k : CL m h0 d (em0 (u2 B 64 0 t) (6 + j) 0 0) Q) : CL m h0 d B Q := by
  refine D_go hm hX t0 t1 h60 h61 ?_
  have e17 : (u2 B 64 0 t) 17 x = 6 + j := by rw [u2_bank (by decide)]; exact h17
  have e46 : (u2 B 64 0 t) 46 0 = a := by rw [u2_bank (by decide)]; exact hX.1
  have a0 : 0 ≤ a := hX.2.2.2.2.2.1
  have n331 : ∀ c, c = 6 + j → r_nodeOf_331 m h0 (d + 1) c (u2 B 64 0 t) (fun o B' => o = .inl none ∧ CL m h0 d B' Q) := by
    intro c hc
    unfold r_nodeOf_331
    refine R_emit0 hm (by rw [e46]; exact a0) (by rw [e46]; exact a1) (by omega) (by omega) (by omega) (by omega) ⟨_, rfl, ?_⟩
    unfold r_nodeOf_336
    rw [hc]
    exact ⟨rfl, k⟩
  unfold r_nodeOf_0
  rw [e17]
  refine ⟨x0, x1, ⟨by omega, by omega⟩, fun _ => ⟨fun _ => ⟨fun _ => ⟨fun _ => ⟨fun q => by omega, fun _ => ⟨fun q => by omega, fun _ => ⟨fun _ => ?_, fun q => by omega⟩⟩⟩, fun q => by omega⟩, fun q => by omega⟩, fun q => by omega⟩, fun q => by omega⟩
  unfold r_nodeOf_268
  exact ⟨⟨by omega, by omega⟩, fun _ => ⟨fun q => by omega, fun _ => ⟨fun q7 => ⟨fun q8 => ⟨fun q9 => n331 10 (by omega), fun q9 => n331 9 (by omega)⟩, fun q8 => n331 8 (by omega)⟩, fun q7 => n331 7 (by omega)⟩⟩, fun q => by omega⟩
theorem D_byte (hm : m + 100 < 1000000000) (hX : CX B ctx a (t + 1)) (t0 : 0 ≤ t) (t1 : t < 5990) (a1 : a < 6000) (h60 : B 60 t = 0) (h61 : B 61 t = x) (x0 : 0 ≤ x) (x1 : x < 3000) (h17 : B 17 x = 0) (k : CL m h0 d (em0 (u2 B 64 0 t) 0 (B 23 x) 0) Q) : CL m h0 d B Q := by
  refine D_go hm hX t0 t1 h60 h61 ?_
  have e17 : (u2 B 64 0 t) 17 x = 0 := by rw [u2_bank (by decide)]; exact h17
  have e23 : (u2 B 64 0 t) 23 x = B 23 x := u2_bank (by decide)
  have e46 : (u2 B 64 0 t) 46 0 = a := by rw [u2_bank (by decide)]; exact hX.1
  have a0 : 0 ≤ a := hX.2.2.2.2.2.1
  unfold r_nodeOf_0
  rw [e17, e23]
  refine ⟨x0, x1, ⟨by decide, by decide⟩, fun q => absurd rfl q, fun _ => ?_⟩
  refine R_emit0 hm (by rw [e46]; exact a0) (by rw [e46]; exact a1) (by decide) (by decide) (by decide) (by decide) ⟨_, rfl, ?_⟩
  unfold r_nodeOf_23
  exact ⟨rfl, k⟩
theorem D_seq (hm : m + 100 < 1000000000) (hX : CX B ctx a (t + 1)) (t0 : 0 ≤ t) (t1 : t < 5990) (h60 : B 60 t = 0) (h61 : B 61 t = x) (x0 : 0 ≤ x) (x1 : x < 3000) (h17 : B 17 x = 1) (k : CL m h0 d (ltB (ltB (u2 B 64 0 t) 0 (B 19 x) 0 0) 0 (B 18 x) 0 0) Q) : CL m h0 d B Q := by
  refine D_go hm hX t0 t1 h60 h61 ?_
  have e17 : (u2 B 64 0 t) 17 x = 1 := by rw [u2_bank (by decide)]; exact h17
  have e19 : (u2 B 64 0 t) 19 x = B 19 x := u2_bank (by decide)
  have e64 : (u2 B 64 0 t) 64 0 = t := u2_same
  have e18 : (ltB (u2 B 64 0 t) 0 (B 19 x) 0 0) 18 x = B 18 x := by simp [ltB, u2]
  unfold r_nodeOf_0
  rw [e17, e19]
  refine ⟨x0, x1, ⟨by decide, by decide⟩, fun _ => ⟨fun q => absurd rfl q, fun _ => ?_⟩, fun q => absurd q (by decide)⟩
  refine R_later hm (by rw [e64]; exact t0) (by rw [e64]; omega) ⟨rfl, ?_⟩
  unfold r_nodeOf_45
  rw [e18]
  refine ⟨x0, x1, ?_⟩
  refine R_later hm (by rw [ltB_64, e64]; omega) (by rw [ltB_64, e64]; omega) ⟨rfl, ?_⟩
  unfold r_nodeOf_58
  exact ⟨rfl, k⟩
theorem D_alt (hm : m + 100 < 1000000000) (hX : CX B ctx a (t + 1)) (t0 : 0 ≤ t) (t1 : t < 5990) (a1 : a < 6000) (s2 : B 48 0 < 2000) (h60 : B 60 t = 0) (h61 : B 61 t = x) (x0 : 0 ≤ x) (x1 : x < 3000) (h17 : B 17 x = 2) (k : CL m h0 d (ltB (ltB (u2 (u2 (em1 (u2 B 64 0 t) 1 0 0 ctx.length) 46 0 (a + 1)) 43 a (a + 1)) 1 a (B 19 x) 0) 0 (B 18 x) 0 0) Q) : CL m h0 d B Q := by
  refine D_go hm hX t0 t1 h60 h61 ?_
  have hX0 := (X_pop hX t0).1
  have e17 : (u2 B 64 0 t) 17 x = 2 := by rw [u2_bank (by decide)]; exact h17
  have e46 : (u2 B 64 0 t) 46 0 = a := hX0.1
  have e48 : (u2 B 64 0 t) 48 0 = B 48 0 := u2_bank (by decide)
  have a0 : 0 ≤ a := hX.2.2.2.2.2.1
  have s1 : 0 ≤ B 48 0 := hX.2.2.2.2.2.2.2.1
  unfold r_nodeOf_0
  rw [e17]
  refine ⟨x0, x1, ⟨by decide, by decide⟩, fun _ => ⟨fun _ => ⟨fun q => absurd rfl q, fun _ => ?_⟩, fun q => absurd q (by decide)⟩, fun q => absurd q (by decide)⟩
  refine R_emit1 hm (ctx := ctx) (by rw [e46]; exact a0) (by rw [e46]; exact a1) (Or.inl rfl) (by rw [e48]; exact s1) (by rw [e48]; exact s2) hX0.2.2.1 hX0.2.2.2.1 ⟨_, rfl, ?_⟩
  rw [e46]
  generalize hB1 : u2 (em1 (u2 B 64 0 t) 1 0 0 ctx.length) 46 0 (a + 1) = B1 at k ⊢
  have f46 : B1 46 0 = a + 1 := by rw [← hB1, u2_same]
  have f19 : B1 19 x = B 19 x := by rw [← hB1]; simp [em1, u2]
  have f18 : B1 18 x = B 18 x := by rw [← hB1]; simp [em1, u2]
  have f64 : B1 64 0 = t := by rw [← hB1]; simp [em1, u2]
  have g64 : (u2 B1 43 a (a + 1)) 64 0 = t := by rw [u2_bank (by decide)]; exact f64
  unfold r_nodeOf_73
  rw [f46]
  have g19 : B1 19 x = B 19 x := f19
  refine ⟨a0, a1, x0, x1, ?_⟩
  rw [f19]
  refine R_later hm (by rw [g64]; exact t0) (by rw [g64]; omega) ⟨rfl, ?_⟩
  unfold r_nodeOf_97
  have h18 : (ltB (u2 B1 43 a (a + 1)) 1 a (B 19 x) 0) 18 x = B 18 x := by rw [← f18]; simp [ltB, u2]
  rw [h18]
  refine ⟨x0, x1, ?_⟩
  refine R_later hm (by rw [ltB_64, g64]; omega) (by rw [ltB_64, g64]; omega) ⟨rfl, ?_⟩
  unfold r_nodeOf_110
  exact ⟨rfl, k⟩
theorem D_group (hm : m + 100 < 1000000000) (hX : CX B ctx a (t + 1)) (t0 : 0 ≤ t) (t1 : t < 5990) (a1 : a < 6000) (h60 : B 60 t = 0) (h61 : B 61 t = x) (x0 : 0 ≤ x) (x1 : x < 3000) (h17 : B 17 x = 4) (k : CL m h0 d (ltB (ltB (em0 (u2 B 64 0 t) 3 (2 * B 19 x) 0) 3 (2 * B 19 x + 1) 0 0) 0 (B 18 x) 0 0) Q) : CL m h0 d B Q := by
  refine D_go hm hX t0 t1 h60 h61 ?_
  have e17 : (u2 B 64 0 t) 17 x = 4 := by rw [u2_bank (by decide)]; exact h17
  have e19 : (u2 B 64 0 t) 19 x = B 19 x := u2_bank (by decide)
  have e46 : (u2 B 64 0 t) 46 0 = a := by rw [u2_bank (by decide)]; exact hX.1
  have a0 : 0 ≤ a := hX.2.2.2.2.2.1
  unfold r_nodeOf_0
  rw [e17, e19]
  refine ⟨x0, x1, ⟨by decide, by decide⟩, fun _ => ⟨fun _ => ⟨fun _ => ⟨fun q => absurd rfl q, fun _ => ?_⟩, fun q => absurd q (by decide)⟩, fun q => absurd q (by decide)⟩, fun q => absurd q (by decide)⟩
  refine R_emit0 hm (by rw [e46]; exact a0) (by rw [e46]; exact a1) (by decide) (by decide) (by decide) (by decide) ⟨_, rfl, ?_⟩
  generalize hB1 : em0 (u2 B 64 0 t) 3 (2 * B 19 x) 0 = B1 at k ⊢
  have f19 : B1 19 x = B 19 x := by rw [← hB1]; simp [em0, u2]
  have f18 : B1 18 x = B 18 x := by rw [← hB1]; simp [em0, u2]
  have f64 : B1 64 0 = t := by rw [← hB1]; simp [em0, u2]
  unfold r_nodeOf_132
  rw [f19]
  refine ⟨x0, x1, ?_⟩
  refine R_later hm (by rw [f64]; exact t0) (by rw [f64]; omega) ⟨rfl, ?_⟩
  unfold r_nodeOf_150
  have h18 : (ltB B1 3 (2 * B 19 x + 1) 0 0) 18 x = B 18 x := by rw [← f18]; simp [ltB, u2]
  rw [h18]
  refine ⟨x0, x1, ?_⟩
  refine R_later hm (by rw [ltB_64, f64]; omega) (by rw [ltB_64, f64]; omega) ⟨rfl, ?_⟩
  unfold r_nodeOf_163
  exact ⟨rfl, k⟩
theorem D_sub (hm : m + 100 < 1000000000) {kd : Int} (hX : CX B ctx a (t + 1)) (t0 : 0 ≤ t) (t1 : t < 5980) (a1 : a < 6000) (s2 : B 48 0 < 2000) (h60 : B 60 t = 0) (h61 : B 61 t = x) (x0 : 0 ≤ x) (x1 : x < 3000) (h17 : (B 17 x = 5 ∧ kd = 1) ∨ (B 17 x = 6 ∧ kd = 2) ∨ (B 17 x = 3 ∧ B 22 x = 2 ∧ kd = 0)) (k : CL m h0 d (ltB (u2 (ltB (u2 (em1 (u2 B 64 0 t) 6 kd 0 ctx.length) 46 0 (a + 1)) 4 a (ctxH ctx) 0) 55 0 (-1)) (if B 17 x = 3 then 5 else 0) (if B 17 x = 3 then x else B 18 x) 0 0) Q) : CL m h0 d B Q := by
  refine D_go hm hX t0 (by omega) h60 h61 ?_
  have hX0 := (X_pop hX t0).1
  have e17 : (u2 B 64 0 t) 17 x = B 17 x := u2_bank (by decide)
  have e22 : (u2 B 64 0 t) 22 x = B 22 x := u2_bank (by decide)
  have e46 : (u2 B 64 0 t) 46 0 = a := hX0.1
  have e48 : (u2 B 64 0 t) 48 0 = B 48 0 := u2_bank (by decide)
  have a0 : 0 ≤ a := hX.2.2.2.2.2.1
  have s1 : 0 ≤ B 48 0 := hX.2.2.2.2.2.2.2.1
  have n215 : r_nodeOf_215 m h0 (d + 1) x (B 17 x) 6 kd (u2 B 64 0 t) (fun o B' => o = .inl none ∧ CL m h0 d B' Q) := by
    unfold r_nodeOf_215
    refine R_emit1 hm (ctx := ctx) (by rw [e46]; exact a0) (by rw [e46]; exact a1) (Or.inr rfl) (by rw [e48]; exact s1) (by rw [e48]; exact s2) hX0.2.2.1 hX0.2.2.2.1 ⟨_, rfl, ?_⟩
    rw [e46]
    generalize hB1 : u2 (em1 (u2 B 64 0 t) 6 kd 0 ctx.length) 46 0 (a + 1) = B1 at k ⊢
    have f55 : B1 55 0 = ctxH ctx := by rw [← hB1, ← hX.2.2.1]; simp [em1, u2]
    have f18 : B1 18 x = B 18 x := by rw [← hB1]; simp [em1, u2]
    have f64 : B1 64 0 = t := by rw [← hB1]; simp [em1, u2]
    unfold r_nodeOf_219
    rw [f55]
    refine R_later hm (by rw [f64]; exact t0) (by rw [f64]; omega) ⟨rfl, ?_⟩
    have h18 : (ltB B1 4 a (ctxH ctx) 0) 18 x = B 18 x := by rw [← f18]; simp [ltB, u2]
    have h64 : (u2 (ltB B1 4 a (ctxH ctx) 0) 55 0 (-1)) 64 0 = t + 1 := by rw [u2_bank (by decide), ltB_64, f64]
    unfold r_nodeOf_231
    rw [h18]
    refine ⟨⟨by omega, by omega⟩, fun q => ⟨x0, x1, ?_⟩, fun q => ?_⟩
    · rw [if_neg q, if_neg q] at k
      refine R_later hm (by rw [h64]; omega) (by rw [h64]; omega) ⟨rfl, ?_⟩
      unfold r_nodeOf_265
      exact ⟨rfl, k⟩
    · rw [if_pos q, if_pos q] at k
      refine R_later hm (by rw [h64]; omega) (by rw [h64]; omega) ⟨rfl, ?_⟩
      unfold r_nodeOf_249 r_nodeOf_265
      exact ⟨rfl, k⟩
  have n192 : r_nodeOf_192 m h0 (d + 1) x (B 17 x) (u2 B 64 0 t) (fun o B' => o = .inl none ∧ CL m h0 d B' Q) := by
    unfold r_nodeOf_192
    refine ⟨⟨by omega, by omega⟩, fun q5 => ⟨fun q6 => ?_, fun q6 => ?_⟩, fun q5 => ?_⟩
    · have hk : kd = 0 := by omega
      rw [hk] at n215; exact n215
    · have hk : kd = 2 := by omega
      rw [hk] at n215; exact n215
    · have hk : kd = 1 := by omega
      rw [hk] at n215; exact n215
  unfold r_nodeOf_0
  rw [e17, e22]
  refine ⟨x0, x1, ⟨by omega, by omega⟩, fun _ => ⟨fun _ => ⟨fun _ => ⟨fun _ => ⟨fun q => n192, fun q5 => ⟨fun q => n192, fun q6 => ⟨fun q => by omega, fun q3 => ⟨⟨by omega, by omega⟩, fun q => by omega, fun _ => n192⟩⟩⟩⟩, fun q => by omega⟩, fun q => by omega⟩, fun q => by omega⟩, fun q => by omega⟩
theorem D_rep (hm : m + 100 < 1000000000) (hX : CX B ctx a (t + 1)) (t0 : 0 ≤ t) (t1 : t < 5980) (h60 : B 60 t = 0) (h61 : B 61 t = x) (x0 : 0 ≤ x) (x1 : x < 3000) (h17 : B 17 x = 3) (r22 : R32 (B 22 x)) (h22 : ¬ B 22 x = 2) (k : CL m h0 d (ltB (u2 B 64 0 t) 5 x (B 22 x) 0) Q) : CL m h0 d B Q := by
  refine D_go hm hX t0 (by omega) h60 h61 ?_
  have e17 : (u2 B 64 0 t) 17 x = 3 := by rw [u2_bank (by decide)]; exact h17
  have e22 : (u2 B 64 0 t) 22 x = B 22 x := u2_bank (by decide)
  have e64 : (u2 B 64 0 t) 64 0 = t := u2_same
  unfold r_nodeOf_0
  rw [e17, e22]
  refine ⟨x0, x1, ⟨by decide, by decide⟩, fun _ => ⟨fun _ => ⟨fun _ => ⟨fun _ => ⟨fun q => absurd q (by decide), fun _ => ⟨fun q => absurd q (by decide), fun _ => ⟨fun q => absurd rfl q, fun _ => ⟨r22, fun _ => ?_, fun q => absurd q h22⟩⟩⟩⟩, fun q => absurd q (by decide)⟩, fun q => absurd q (by decide)⟩, fun q => absurd q (by decide)⟩, fun q => absurd q (by decide)⟩
  unfold r_nodeOf_268
  rw [e22]
  refine ⟨⟨by decide, by decide⟩, fun q => absurd rfl q, fun _ => ⟨x0, x1, ?_⟩⟩
  refine R_later hm (by rw [e64]; exact t0) (by rw [e64]; omega) ⟨rfl, ?_⟩
  unfold r_nodeOf_286
  exact ⟨rfl, k⟩
end RND
