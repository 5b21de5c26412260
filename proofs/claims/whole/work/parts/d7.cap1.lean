/-! THE CLASS'S WALKER: a lookahead or kept rounds, as a row -/
section AP1
variable {h1 : qH} {d : Nat} {hgt : Int} {Q : qO → qB → Prop} {c0 s0 : Int} {B : qB} {k : Int} {a t : Nat} {n te s p u kd : Int}
theorem L_ap (hd : 14 ≤ d) (hS : SH B) (hD : DI c0 s0 B) (hW : WCx a t n te B) (hA : AtS B s p u) (hs : 1 ≤ s ∧ s < 608) (hp : 0 ≤ p ∧ p ≤ n) (hu : 0 ≤ u ∧ u ≤ 11) (k0 : 0 ≤ k) (k1 : k < 1000000000) (hz : B 103 1 < 1048576) (hk : B (a + 1) s = kd) (hkd : kd = 7 ∨ kd = 8 ∨ kd = 14) (hκ : 0 ≤ keV B s p ∧ keV B s p / 8 < el B (fe B)) (w0 : u < rv B (keV B s p) → Fl h1 d 0 hgt Q k B)
    (w1 : ¬ u < rv B (keV B s p) → ∀ B1, PU c0 s0 B B1 (pkV 1 s u p) → ∀ B2, MV c0 s0 B1 B2 (B (a + 4) s) p 0 → ∀ Qi : qO → qB → Prop, (∀ v B3, SH B3 → DI c0 s0 B3 → WF B1 B3 → R32 v → B1 103 1 ≤ B3 103 1 → (∀ j, B1 103 1 ≤ j → j < B3 103 1 → enK (B3 (pe B3) j)) → (∀ B4, DW c0 s0 B3 B4 (B1 103 1) → (¬ (v = -1 ↔ kd = 8) → Fl h1 d 0 hgt Q k B4) ∧ ((v = -1 ↔ kd = 8) → ∀ B5, MV c0 s0 B4 B5 (B (a + 3) s) (if kd = 14 ∧ p < v then v else p) (if kd = 14 ∧ p < v then B (a + 5) s else u) → Lp h1 d 0 hgt Q (k + 1) B5)) → Qi (.inl (some (iv v))) B3) → Lp h1 (d - 3) 1 (B1 103 1) Qi 0 B2) : Lp h1 d 0 hgt Q k B := by
  have hW0 := hW
  obtain ⟨w3, w5, w4, wt, wn, wr, -⟩ := hW
  have hA0 := hA
  obtain ⟨a6, a7, a8⟩ := hA
  have et : (B 102 3).toNat = a := by omega
  have et4 : (B 102 4).toNat = t := by omega
  have al := pr_lt w5
  refine Lp_adv (by omega) hS k0 k1 (by omega) ⟨by omega, by omega⟩ ?_
  obtain ⟨d, rfl⟩ : ∃ d', d = d' + 3 := ⟨d - 3, by omega⟩
  have key : c_Wa_advance_271 h1 (d + 2) 0 B (fun o B' => SH B' ∧ ((o = .inl (some (iv 1)) ∧ Lp h1 (d + 3) 0 hgt Q (k + 1) B') ∨ (o = .inl (some (iv 0)) ∧ Fl h1 (d + 3) 0 hgt Q k B'))) := by
    unfold c_Wa_advance_271
    refine c_Wa_walkApart_0_ok (by omega) hS ?_
    unfold c_Wa_walkApart_0
    rw [et, et4, a6, a7, a8]
    refine ⟨⟨by decide, by decide⟩, fun q => by omega, fun _ => ⟨w5, wt, by omega, hs.2, R_fhas (by omega) hS hD hκ.1 hκ.2 ⟨by omega, by omega⟩ ⟨_, rfl, hS, ?_⟩⟩⟩
    unfold c_Wa_walkApart_27
    rw [a6, a7, a8]
    by_cases hh : u < rv B (keV B s p)
    · rw [if_pos hh]
      refine ⟨⟨by decide, by decide⟩, fun q => absurd q (by decide), fun _ => ⟨0, rfl, hS, ?_⟩⟩
      unfold c_Wa_advance_276
      exact ⟨Or.inl rfl, hS, Or.inr ⟨rfl, w0 hh⟩⟩
    · rw [if_neg hh]
      refine ⟨⟨by decide, by decide⟩, fun _ => ⟨⟨by decide, by decide, by omega, by omega, hu.1, by omega, hp.1, by omega⟩, ?_⟩, fun q => absurd rfl q⟩
      have h9 := hD.pile.2.2.2.2.2
      refine R_ppush (c0 := c0) (s0 := s0) (by omega) hS hD h9.1 hz (fun B1 hB1 => ⟨rfl, hB1.1, ?_⟩)
      have b2 : ∀ y, B1 102 y = B 102 y := fun y => hB1.at 102 y (by decide) (by decide) (by decide)
      have b4 : B1 (a + 4) s = B (a + 4) s := hB1.at _ _ (by omega) (by omega) (by omega)
      have hz1 : B1 103 1 = B 103 1 + 1 := hB1.2.2.1
      unfold c_Wa_walkApart_63
      rw [b2, et, b4]
      refine ⟨w5, by omega, hs.2, ?_⟩
      refine c_Wa_walk_0_ok (by omega) hB1.1 ?_
      unfold c_Wa_walk_0
      have hM : MV c0 s0 B1 (u2 (u2 (u2 B1 102 6 (B (a + 4) s)) 102 7 p) 102 8 0) (B (a + 4) s) p 0 := by
        refine MV_in hB1.1 hB1.2.1 ⟨by rw [u2_idx (by decide), u2_idx (by decide), u2_same], by rw [u2_idx (by decide), u2_same], u2_same⟩ (fun b y hb => ?_)
        by_cases e : b = 102
        · have := hb e
          subst e
          rw [u2_idx this.2.2, u2_idx this.2.1, u2_idx this.1]
        · rw [u2_bank e, u2_bank e, u2_bank e]
      refine w1 hh B1 hB1 _ hM _ (fun v B3 g1 g2 g3 g4 g5 g6 g7 => ⟨v, rfl, g1, ?_⟩)
      unfold c_Wa_walkApart_88
      refine R_dropWays (c0 := c0) (s0 := s0) (by omega) g1 g2 (by omega) g5 g6 (fun B4 hB4 => ⟨rfl, hB4.1, ?_⟩)
      obtain ⟨p1, p2⟩ := g7 B4 hB4
      have hp3 := pe_ne g2
      have hlo : ∀ b y, b < 102 → B4 b y = B b y := fun b y hb => by
        rw [hB4.2.2.2.2.2.1 b y (fun q => by omega) (fun q => by omega), g3.1 b y (by omega) (by omega) (by omega) (by omega) (by omega) (by omega)]
        exact hB1.at b y (by omega) (by omega) (by omega)
      have h23 : B4 102 3 = B 102 3 := by
        rw [hB4.2.2.2.2.2.1 102 3 (fun q => by omega) (fun q => by omega), g3.1 102 3 (by decide) (by decide) (by decide) (by decide) (by decide) (by decide)]
        exact b2 3
      have hkd4 : B4 (a + 1) s = kd := by rw [hlo _ _ (by omega)]; exact hk
      have hnx4 : B4 (a + 3) s = B (a + 3) s := hlo _ _ (by omega)
      have hdp4 : B4 (a + 5) s = B (a + 5) s := hlo _ _ (by omega)
      have RF : ¬ (v = -1 ↔ kd = 8) → (∃ v : Int, (Sum.inl (some (iv 0)) : qO) = .inl (some (iv v)) ∧ SH B4 ∧ c_Wa_advance_276 h1 (d + 2) v B4 (fun o B' => SH B' ∧ ((o = .inl (some (iv 1)) ∧ Lp h1 (d + 3) 0 hgt Q (k + 1) B') ∨ (o = .inl (some (iv 0)) ∧ Fl h1 (d + 3) 0 hgt Q k B')))) := fun q => ⟨0, rfl, hB4.1, by unfold c_Wa_advance_276; exact ⟨Or.inl rfl, hB4.1, Or.inr ⟨rfl, p1 q⟩⟩⟩
      have RT : (v = -1 ↔ kd = 8) → ∀ B5, MV c0 s0 B4 B5 (B (a + 3) s) (if kd = 14 ∧ p < v then v else p) (if kd = 14 ∧ p < v then B (a + 5) s else u) → (∃ v : Int, (Sum.inl (some (iv 1)) : qO) = .inl (some (iv v)) ∧ SH B5 ∧ c_Wa_advance_276 h1 (d + 2) v B5 (fun o B' => SH B' ∧ ((o = .inl (some (iv 1)) ∧ Lp h1 (d + 3) 0 hgt Q (k + 1) B') ∨ (o = .inl (some (iv 0)) ∧ Fl h1 (d + 3) 0 hgt Q k B')))) := fun q B5 hM5 => ⟨1, rfl, hM5.1, by unfold c_Wa_advance_276; exact ⟨Or.inr rfl, hM5.1, Or.inl ⟨rfl, p2 q B5 hM5⟩⟩⟩
      -- the memory after going on
      have mv : ∀ x y, MV c0 s0 B4 (u2 (u2 (u2 B4 102 6 (B (a + 3) s)) 102 7 x) 102 8 y) (B (a + 3) s) x y := fun x y => by
        refine MV_in hB4.1 hB4.2.1 ⟨by rw [u2_idx (by decide), u2_idx (by decide), u2_same], by rw [u2_idx (by decide), u2_same], u2_same⟩ (fun b y hb => ?_)
        by_cases e : b = 102
        · have := hb e
          subst e
          rw [u2_idx this.2.2, u2_idx this.2.1, u2_idx this.1]
        · rw [u2_bank e, u2_bank e, u2_bank e]
      have e3 : (B4 102 3).toNat = a := by rw [h23]; exact et
      have k132 : ∀ s1 s2 : Int, (s1 = 0 ∨ s1 = 1) → (s2 = 0 ∨ s2 = 1) → (s1 = 1 ↔ v = -1) → (s2 = 1 ↔ kd = 8) → c_Wa_walkApart_132 h1 (d + 1) s p u v kd s1 s2 B4 (fun o B' => ∃ v : Int, o = .inl (some (iv v)) ∧ SH B' ∧ c_Wa_advance_276 h1 (d + 2) v B' (fun o B' => SH B' ∧ ((o = .inl (some (iv 1)) ∧ Lp h1 (d + 3) 0 hgt Q (k + 1) B') ∨ (o = .inl (some (iv 0)) ∧ Fl h1 (d + 3) 0 hgt Q k B')))) := by
        intro s1 s2 z1 z2 z3 z4
        have n3 : (u2 B4 102 6 (B (a + 3) s)) 102 3 = B4 102 3 := u2_idx (by decide)
        have k0' : ¬ (kd = 14 ∧ p < v) → (v = -1 ↔ kd = 8) → c_Wa_walkApart_166 h1 (d + 1) s p u v (u2 B4 102 6 (B (a + 3) s)) (fun o B' => ∃ v : Int, o = .inl (some (iv v)) ∧ SH B' ∧ c_Wa_advance_276 h1 (d + 2) v B' (fun o B' => SH B' ∧ ((o = .inl (some (iv 1)) ∧ Lp h1 (d + 3) 0 hgt Q (k + 1) B') ∨ (o = .inl (some (iv 0)) ∧ Fl h1 (d + 3) 0 hgt Q k B')))) := by
          intro hn hq
          unfold c_Wa_walkApart_166 c_Wa_walkApart_167
          refine ⟨⟨by decide, by decide⟩, fun _ => ?_, fun q => absurd rfl q⟩
          unfold c_Wa_walkApart_181
          refine ⟨⟨by decide, by decide⟩, fun _ => RT hq _ ?_, fun q => absurd rfl q⟩
          rw [if_neg hn, if_neg hn]
          exact mv p u
        unfold c_Wa_walkApart_132
        rw [e3, hnx4]
        refine ⟨⟨by omega, by omega⟩, ⟨by omega, by omega⟩, fun q => ⟨w5, by omega, hs.2, ⟨by omega, by omega⟩, fun q2 => k0' (fun z => q2 z.1) (by rw [← z3, ← z4, q]), fun q2 => ⟨g4, ⟨by omega, by omega⟩, fun q3 => k0' (fun z => by omega) (by rw [← z3, ← z4, q]), fun q3 => ?_⟩⟩, fun q => RF (fun z => q ?_)⟩
        · unfold c_Wa_walkApart_167
          refine ⟨⟨by decide, by decide⟩, fun q => absurd q (by decide), fun _ => ?_⟩
          unfold c_Wa_walkApart_181
          rw [n3, e3]
          refine ⟨⟨by decide, by decide⟩, fun q => absurd q (by decide), fun _ => ⟨w5, by omega, hs.2, RT (by rw [← z3, ← z4, q]) _ ?_⟩⟩
          have e5 : (u2 (u2 B4 102 6 (B (a + 3) s)) 102 7 v) (a + 5) s = B (a + 5) s := by rw [u2_bank (by omega), u2_bank (by omega)]; exact hdp4
          rw [if_pos ⟨q2, by omega⟩, if_pos ⟨q2, by omega⟩, e5]
          exact mv v _
        · rw [← z3, ← z4] at z
          omega
      unfold c_Wa_walkApart_99
      rw [e3, hkd4]
      refine ⟨w5, by omega, hs.2, g4, fun q => ?_, fun q => ?_⟩
      · unfold c_Wa_walkApart_120
        exact ⟨⟨by omega, by omega⟩, fun q2 => k132 0 0 (Or.inl rfl) (Or.inl rfl) (by omega) (by omega), fun q2 => k132 0 1 (Or.inl rfl) (Or.inr rfl) (by omega) (by omega)⟩
      · unfold c_Wa_walkApart_120
        exact ⟨⟨by omega, by omega⟩, fun q2 => k132 1 0 (Or.inr rfl) (Or.inl rfl) (by omega) (by omega), fun q2 => k132 1 1 (Or.inr rfl) (Or.inr rfl) (by omega) (by omega)⟩
  rcases hkd with e | e | e
  · exact adv_7 (by omega) hS (by rw [et]; exact w5) (by omega) (by omega) (by rw [et, a6, hk]; exact e) key
  · exact adv_8 (by omega) hS (by rw [et]; exact w5) (by omega) (by omega) (by rw [et, a6, hk]; exact e) key
  · exact adv_14 (by omega) hS (by rw [et]; exact w5) (by omega) (by omega) (by rw [et, a6, hk]; exact e) key
end AP1
