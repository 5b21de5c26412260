/-! THE CLASS'S BUILDER: sets are copied -/
def scC (B : qB) (a a1 : Nat) : qB := u2 (cpC B (a1 + 1) 0 (a + 1) 0 (B a1 1 * 8)) a 1 (B a1 1)
section CDEF2
variable {h1 : qH} {d : Nat} {B : qB} {Q : qO → qB → Prop}
theorem Y_Se_copy {a a1 : Nat} (hd : 2 ≤ d) (hS : SH B) (ha : ob 7 a) (ha1 : ob 7 a1) (p1 : 0 ≤ B a1 1) (p2 : B a1 1 ≤ 200) (w : Q (.inl none) (scC B a a1)) : qY h1 d n_Se_copy 0 [some (.ref a), some (.ref a1), none] [] B Q := by
  obtain ⟨d, rfl, he⟩ := d_pos hd
  have e1 : min (max 0 (B a1 1 * 8)) 1600 = B a1 1 * 8 := by omega
  have ne : a1 ≠ a + 1 := by
    intro e
    have h1 := (oa7 ha).1
    have h2 := ha1.1
    rw [← e] at h1
    omega
  have e2 : (cpC B (a1 + 1) 0 (a + 1) 0 (B a1 1 * 8)) a1 1 = B a1 1 := by unfold cpC; rw [if_neg (fun q => ne q.1)]
  refine y_wk (c_Se_copy_0_ok (by omega) hS ha ha1 ?_) ⟨rfl, rfl, trivial⟩
  unfold c_Se_copy_0
  rw [e1, e2]
  exact ⟨⟨by omega, by omega⟩, ⟨by omega, by omega⟩, by omega, by omega, w⟩
theorem S_Se_copy {a a1 : Nat} (hS : SH B) (ha : ob 7 a) (ha1 : ob 7 a1) (p1 : 0 ≤ B a1 1) (p2 : B a1 1 ≤ 200) : SH (scC B a a1) := SH_u2 (SH_cp hS (by decide)) (by decide)
end CDEF2
