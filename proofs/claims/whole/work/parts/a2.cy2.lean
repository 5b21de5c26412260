/-! THE CLASS: methods that call those, by their ends -/
section CY2
variable {h1 : qH} {d : Nat} {B : qB} {Q : qO → qB → Prop}
theorem Y_Pr_holds {a : Nat} {s c : Int} (hd : 3 ≤ d) (hS : SH B) (ha : ob 5 a) (h : hoO s c) (w : Q (.inl (some (iv (bi (hoC B (a + 7) s c))))) B) : qY h1 d n_Pr_holds 0 [some (.ref a), some (iv s), some (iv c)] [] B Q := by
  obtain ⟨d, rfl, he⟩ := d_pos hd
  exact c_Pr_holds_0_ok he hS ha ⟨h, w⟩
theorem Y_Re_bracketKind (hd : 3 ≤ d) (hS : SH B) (hR : RI B) (w : Q (.inl (some (iv (bkV B)))) B) : qY h1 d n_Re_bracketKind 0 [some (.ref 100)] [] B Q := by
  obtain ⟨d, rfl, he⟩ := d_pos hd
  have g : ∀ z, bkV B = z → Q (.inl (some (iv z))) B := fun z h => by rw [h] at w; exact w
  unfold bkV at g
  refine c_Re_bracketKind_0_ok he hS ⟨hR, sgC_R _ _, fun q => ⟨sgC_R _ _, fun q2 => g _ ?_, fun q2 => g _ ?_, fun q2 => g _ ?_, fun q2 q3 q4 => g _ ?_⟩, fun q => g _ ?_⟩
  · rw [if_pos q, q2]; rfl
  · rw [if_pos q, q2]; rfl
  · rw [if_pos q, q2]; rfl
  · rw [if_pos q, if_neg q3, if_neg q4, if_neg q2]
  · rw [if_neg q]
theorem Y_Tr_addRounds {p l h g : Int} (hd : 3 ≤ d) (hS : SH B) (ho : arO B p l h g) (w : Q (.inl (some (iv (adV B)))) (arC B p l h g)) : qY h1 d n_Tr_addRounds 0 [some (.ref 90), some (iv p), some (iv l), some (iv h), some (iv g), none, none, none] [] B Q := by
  obtain ⟨d, rfl, he⟩ := d_pos hd
  obtain ⟨o1, o2, o3, o4, o5, o6, o7⟩ := ho
  have hv : 0 ≤ adV B ∧ adV B < 408 := by unfold adV; split <;> omega
  unfold arC at w
  have k59 : ∀ z, arW (B 97 p) l h g = z → c_Tr_addRounds_59 h1 d l h 11 g p z B Q := fun z hz => by
    rw [hz] at w o7
    exact ⟨o5, o6, o7, hv.1, hv.2, w⟩
  have k35 : ∀ z, z = (if h = -1 then B 97 p + 1 else (h - l) * (B 97 p + 1)) → c_Tr_addRounds_35 h1 d p l h g (l * B 97 p) z B Q := fun z hz => by
    refine ⟨o4, fun q => k59 _ ?_, fun q => k59 _ ?_⟩
    · unfold arW; rw [if_neg q, hz]; omega
    · unfold arW; rw [if_pos q, hz]
  exact c_Tr_addRounds_0_ok he hS ⟨o1, o2, o3, fun q => k35 _ (by rw [if_neg q]), fun q => k35 _ (by rw [if_pos q])⟩
theorem S_Tr_addRounds {p l h g : Int} (hS : SH B) (ho : arO B p l h g) : SH (arC B p l h g) := by
  obtain ⟨o1, o2, o3, o4, o5, o6, o7⟩ := ho
  have hv : 0 ≤ adV B := by unfold adV; split <;> omega
  exact SH_u2 (SH_u2 (S_Tr_add hS o5 o6 o7) hv) hv
theorem Y_Tr_onlySet {r : Int} (hd : 3 ≤ d) (hS : SH B) (ho : osO B r) (w : Q (.inl (some (iv (osV B r)))) B) : qY h1 d n_Tr_onlySet 0 [some (.ref 90), some (iv r), none, none, none] [] B Q := by
  obtain ⟨d, rfl, he⟩ := d_pos hd
  obtain ⟨o1, o2, o3, o4, o5, o6, o7⟩ := ho
  have g : ∀ z, osV B r = z → Q (.inl (some (iv z))) B := fun z h => by rw [h] at w; exact w
  unfold osV at g
  have k0 : ¬ ((¬ B 93 (B 93 r) = 0) ∧ B 94 (B 93 r) = 0 ∧ B 94 (B 93 (B 93 r)) = 0) → c_Tr_onlySet_36 h1 d (B 93 (B 93 r)) B Q := fun h => by
    refine ⟨⟨by decide, by decide⟩, fun _ => g _ (if_neg (fun q => h ⟨q.1, q.2.1, q.2.2.1⟩)), fun q => absurd rfl q⟩
  refine c_Tr_onlySet_0_ok he hS ⟨o1, o2, o3, o4, ⟨by omega, by omega⟩, fun q => k0 (fun h => h.1 q), fun q => ⟨(o7 q).1, fun q2 => k0 (fun h => q2 h.2.1), fun q2 => ⟨o5, o6, ((o7 q).2 q2).1, fun q3 => k0 (fun h => q3 h.2.2), fun q3 => ⟨⟨by decide, by decide⟩, fun q4 => absurd q4 (by decide), fun _ => ⟨o5, o6, ((o7 q).2 q2).2, fun q4 => g _ (if_neg (fun h => q4 h.2.2.2)), fun q4 => g _ (if_pos ⟨q, q2, q3, q4⟩)⟩⟩⟩⟩⟩
theorem Y_Pr_clear {a : Nat} (hd : 3 ≤ d) (hS : SH B) (ha : ob 5 a) (w : Q (.inl none) (pcC B a)) : qY h1 d n_Pr_clear 0 [some (.ref a)] [] B Q := by
  obtain ⟨d, rfl, he⟩ := d_pos hd
  have e : (u2 (u2 B a 7 0) a 8 0) a 7 = 0 := by rw [u2_idx (by decide), u2_same]
  refine c_Pr_clear_0_ok he hS ha ⟨by rw [e]; decide, by rw [e]; decide, w⟩
theorem S_Pr_clear {a : Nat} (hS : SH B) : SH (pcC B a) := by
  have e : (u2 (u2 B a 7 0) a 8 0) a 7 = 0 := by rw [u2_idx (by decide), u2_same]
  unfold pcC paC
  rw [if_neg (by decide)]
  exact S_paS (SH_u2 (SH_u2 hS (by decide)) (by decide)) (by rw [e]; decide)
theorem Y_Bu_branch {s m l z : Int} (hd : 3 ≤ d) (hS : SH B) (p0 : ob 5 (B 101 1).toNat) (p1 : 0 ≤ s) (p2 : s < 608) (p3 : z = 0 ∨ z = 1) (w : Q (.inl none) (bbC B s m l z)) : qY h1 d n_Bu_branch 0 [some (.ref 101), some (iv s), some (iv m), some (iv l), some (iv z)] [] B Q := by
  obtain ⟨d, rfl, he⟩ := d_pos hd
  have hz : R32 z := ⟨by omega, by omega⟩
  unfold bbC at w
  refine c_Bu_branch_0_ok he hS ⟨hz, fun q => ⟨p0, hz, fun _ => ⟨p1, p2, ?_⟩, fun q2 => absurd q q2⟩, fun q => ⟨p0, hz, fun q2 => absurd q2 q, fun _ => ⟨p1, p2, ?_⟩⟩⟩
  · rw [if_pos q, if_pos q] at w; exact w
  · rw [if_neg q, if_neg q] at w; exact w
theorem S_Bu_branch {s m l z : Int} (hS : SH B) (p0 : ob 5 (B 101 1).toNat) (p1 : 0 ≤ s) (p2 : s < 608) (p3 : z = 0 ∨ z = 1) : SH (bbC B s m l z) := SH_u2 (SH_u2 hS p1) p1
theorem bi_inj {a b : Bool} : bi a = bi b ↔ a = b := by cases a <;> cases b <;> decide
theorem Y_Wa_isEdge (hd : 3 ≤ d) (hS : SH B) (ho : weO B) (w : Q (.inl (some (iv (bi (weV B))))) B) : qY h1 d n_Wa_isEdge 0 [some (.ref 102)] [] B Q := by
  obtain ⟨d, rfl, he⟩ := d_pos hd
  obtain ⟨o1, o2, o3, o4⟩ := ho
  have g : ∀ b, weV B = b → Q (.inl (some (iv (bi b)))) B := fun z h => by rw [h] at w; exact w
  unfold weV at g
  refine c_Wa_isEdge_0_ok he hS ⟨o1, o2, o3, byA_R _ _ _, o4, byA_R _ _ _, fun q => g false ?_, fun q => g true ?_⟩
  · rw [bi_inj.mp q, Bool.xor_self]
  · have h := fun h => q (bi_inj.mpr h)
    generalize isWd (byA B (B 102 4).toNat (B 102 7 - 1)) = x at h
    generalize isWd (byA B (B 102 4).toNat (B 102 7)) = y at h
    cases x <;> cases y <;> first | rfl | exact absurd rfl h
end CY2
