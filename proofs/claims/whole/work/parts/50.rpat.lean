/-! THE REFERENCE READS A PATTERN: closing brackets, and the loop -/
section RPAT
variable {m : Nat} {h0 : qH} {d : Nat} {B : qB} {Q : qO → qB → Prop}
theorem FM_u2 {fr : List sF} {j : Nat} {x z : Int} (h : FM B fr) (hj : j = 26 ∨ j = 30 ∨ j = 33 ∨ j = 34 ∨ j = 35) : FM (u2 B j x z) fr := by
  refine ⟨by rw [u2_bank (by omega)]; exact h.1, ?_⟩
  rw [u2_bank (by omega), u2_bank (by omega)]
  exact frR_fr (Int.le_refl _) (Int.le_refl _) fr (FrS.u2 FrS.refl (by unfold NdS; omega)) (fun b y p1 p2 p3 p4 => u2_bank (by omega)) h.2
/-- quantifier and joining, behind an atom or a bracket that is closed -/
theorem R_rest (hm : m + 100 < 1000000000) {at0 a gr lk : Int} {e : qT} {hw g : Int} {wy : Option qT} {rw : qT} {r : List sF} {x : Int} {Qz : qO → qB → Prop} (hp : PO B) (hFM : FM B ((hw, g, wy, rw) :: r)) (h33 : B 33 0 = a) (h30 : B 30 0 = gr) (h26 : B 26 0 = lk) (h35 : B 35 0 = -1) (n1 : 0 ≤ B 28 0) (n2 : B 28 0 ≤ 4 + 5 * at0) (s1 : 0 ≤ B 29 0) (s2 : B 29 0 ≤ at0 + 1)
    (ha : 0 ≤ at0) (ha1 : at0 < a) (ha2 : a ≤ 200) (hg1 : 0 ≤ gr) (hg2 : gr ≤ 9) (hlk : lk = lkF ((hw, g, wy, rw) :: r)) (hW : frW ((hw, g, wy, rw) :: r)) (hlen : r.length ≤ 10) (hwf : wf e) (hL : lnO wy + ln rw + frL r + ln e ≤ a) (hln : ln e ≤ 200) (hnd : nd B (B 28 0) (B 29 0) e x)
    (kE : ∀ w B', sQt (sgB B) lk e a = .error w → 0 ≤ w → Er B B' w → Qz (.inl none) B')
    (kO : ∀ q a' B', sQt (sgB B) lk e a = .ok (q, a') → PR B' (a', gr, lk, (hw, g, wy, .add rw q) :: r) → CI (a', gr, lk, (hw, g, wy, .add rw q) :: r) → FrS Kp B B' → Qz (.inl none) B') : qZ m h0 (d + 3) k_quantified 0 [some (.ref m), some (iv x), none, none, none, none, none, none] [] B (fun o B' => ∃ v : Int, o = .inl (some (iv v)) ∧ qZ m h0 (d + 3) k_joins 0 [some (.ref m), some (iv v), none] [] B' Qz) := by
  have hb := lkF_bd ((hw, g, wy, rw) :: r)
  have hlen' : (((hw, g, wy, rw) :: r : List sF).length : Int) ≤ 11 := by rw [List.length_cons]; omega
  have hsg : sgB B = sgB B := rfl
  refine R_quantified hm hp h35 (by omega) (by omega) n1 (by omega) ⟨by omega, by omega⟩ hnd hwf hln (fun w v B' he hw' hE => ⟨_, rfl, ?_⟩) (fun q a' v B' ho a1 a2 hEP => ⟨_, rfl, ?_⟩)
  · rw [h33, h26] at he
    refine r_joins_0_ok hm ?_
    unfold r_joins_0
    have hR : R32 (B' 35 0) := by
      rw [hE.1]
      exact ⟨by omega, by have := hE.2.2.2.2; omega⟩
    refine ⟨hR, fun _ => kE w B' he hw' hE, fun q => ?_⟩
    rw [hE.1] at q
    omega
  · rw [h33, h26] at ho
    rw [h33] at a1
    have hFM' := FM_EP hFM hEP
    obtain ⟨g1, g2, g3, g4, g5, g6, g7, g8⟩ := hEP
    obtain ⟨w1, w2, w3⟩ := sQt_bd hwf ho
    refine R_joins hm (by omega) (by omega) g4 hFM' hlen g1 (fun B2 F2 q28 q29 qO => kO q a' B2 ho ⟨F2, ?_, ?_, ?_, ?_, ?_, ?_, ?_, ?_⟩ ⟨?_, a2, ?_, ?_, hg1, hg2, hlk, ?_, ?_⟩ ?_)
    · rw [qO 33 0 (by omega)]; exact g3
    · rw [qO 30 0 (by omega), g2 30 0 (by unfold StN; omega)]; exact h30
    · rw [qO 26 0 (by omega), g2 26 0 (by unfold StN; omega)]; exact h26
    · rw [qO 35 0 (by omega)]; exact g4
    · omega
    · show B2 28 0 ≤ 1 + 5 * a'; omega
    · omega
    · show B2 29 0 ≤ a'; omega
    · show 0 ≤ a'; omega
    · simp
    · show r.length + 1 ≤ 11; omega
    · obtain ⟨z1, z2, z3, z4, z5, z6⟩ := hW
      exact ⟨z1, z2, z3, z4, ⟨z5, w1⟩, z6⟩
    · show lnO wy + (ln rw + ln q) + frL r ≤ a'; omega
    · exact fun b y q => (qO b y (by unfold Kp at q; omega)).trans (g2 b y (Kp_StN b y q))
end RPAT
