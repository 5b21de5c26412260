/-! THE MAIN ROW: what the pure machine does, the machine does -/
theorem q_run_mono : ∀ (N d : Nat) (M : qM) (pc : Nat) (env : qL) (st : List Value) (h : qH) (o : qO) (h' : qH), q_run N d M pc env st h = some (o, h') → h.2.1 ≤ h'.2.1 ∧ h.2.2 ≤ h'.2.2 := by
  intro N
  induction N with
  | zero => intro d M pc env st h o h' hr; cases hr
  | succ N ih =>
    intro d M pc env st h o h' hr
    unfold q_run at hr
    split at hr
    · cases hr
    · split at hr
      · split at hr
        · exact ih _ _ _ _ _ _ _ _ hr
        · split at hr
          · exact ih _ _ _ _ _ _ _ _ hr
          · split at hr
            · exact ih _ _ _ _ _ _ _ _ hr
            · split at hr
              · rename_i hm
                have h1 := q_mem_mono hm
                have h2 := ih _ _ _ _ _ _ _ _ hr
                exact ⟨Nat.le_trans h1.1 h2.1, Nat.le_trans h1.2 h2.2⟩
              · split at hr
                · cases hr; exact ⟨Nat.le_refl _, Nat.le_refl _⟩
                · split at hr
                  · cases hr; exact ⟨Nat.le_succ _, Nat.le_add_right _ _⟩
                  · split at hr
                    · split at hr
                      · cases hr
                      · split at hr
                        · split at hr
                          · rename_i hc
                            have h1 := ih _ _ _ _ _ _ _ _ hc
                            have h2 := ih _ _ _ _ _ _ _ _ hr
                            exact ⟨Nat.le_trans h1.1 h2.1, Nat.le_trans h1.2 h2.2⟩
                          · rename_i hc
                            have h1 := ih _ _ _ _ _ _ _ _ hc
                            split at hr
                            · cases hr; exact h1
                            · cases hr
                          · cases hr
                        · cases hr
                    · cases hr
      · cases hr
theorem qm_args (ad : Nat → Nat) : ∀ (vs : List Value) (i : Nat), qm ad (lv_args i vs) = lv_args i (vs.map (qv ad)) := by
  intro vs
  induction vs with
  | nil => intro i; rfl
  | cons v r ih =>
    intro i
    show (i, qv ad v) :: qm ad (lv_args (if v.category = 2 then i + 2 else i + 1) r) = (i, qv ad v) :: lv_args (if (qv ad v).category = 2 then i + 2 else i + 1) (r.map (qv ad))
    rw [ih, qv_cat]
theorem q_sl (ad : Nat → Nat) : ∀ (vs : List Value), (lg_sl (vs.map (qv ad))).length = (lg_sl vs).length := by
  intro vs
  induction vs with
  | nil => rfl
  | cons v r ih =>
    have e : ∀ (w : Value) (q : List Value), lg_sl (w :: q) = (if w.category = 2 then [Slot.val w, Slot.second] else [Slot.val w]) ++ lg_sl q := fun w q => by simp [lg_sl]
    rw [List.map_cons, e, e, List.length_append, List.length_append, ih, qv_cat]
    split <;> rfl
theorem q_good {L : List Cond} (h : ∀ w ∈ L, w ∈ GW) : GoodIn GW L := fun w hw => ⟨h w hw, good_of_word (List.mem_filter.mp (h w hw)).2⟩
section QSO
variable (l : Launch) (D : va_G) (dA : Nat → ClassId) (sC : qS) (H0 : Heap)
/-- the body of a method, from any point of it -/
def q_Body (N : Nat) : Prop := ∀ (d : Nat) (M : qM) (pc : Nat) (env : qL) (st : List Value) (h : qH) (o : qO) (h' : qH), q_mok M → q_run N d M pc env st h = some (o, h') →
  ∀ (p : Program) (e : Env) (s : State) (m : MethodId) (args : Array Value) (below : List Frame) (meth : Method) (c : Code), p.tables.exec = Jvm.exec → c.code = M.2.2.1 → c.maxLocals = M.2.2.2.1 → (∀ w ∈ GW, w.before args s = true) → s.vm.findClass (oN M.2.1) = some m.cls → qAmb D dA sC H0 s → (∀ q, q < H0.size → s.heap[q]? = H0[q]?) → meth.sig.returnType = M.2.2.2.2.1 → meth.locks = false → (M.1 = 2 → meth.name = "<init>") → (∀ x ∈ c.exceptionTable.toList, False) →
  ∀ (H : Heap) (locs : List Loc) (cells slots : Nat) (ls : Array Slot) (n0 s0 Rc Rs : Nat), s.heap.size = H0.size + n0 → lv_has ls M.2.2.2.1 (qm (qad H0.size sC) env) → qW D dA sC H0 h H → (∀ z ∈ locs, H0.size ≤ z.base) → cells + n0 = h.2.1 → slots + s0 = h.2.2 → h'.2.1 = Rc + n0 → h'.2.2 = Rs + s0 →
  W p l e (q_rm d Rc Rs) s m args below meth c H locs cells slots (q_End D dA sC H0 o h' below args s Rc Rs) (F0 m pc ls (st.map (qv (qad H0.size sC))))
/-- the words of a method -/
def q_ws (M : qM) : List Cond := Cond.code M.2.2.2.2.2.2 M.2.2.1 M.2.2.2.1 M.2.2.2.2.1 :: GW
theorem q_ws_good {M : qM} (hM : q_mok M) : GoodIn GW (q_ws M) := q_good (fun w hw => by
  rcases List.mem_cons.mp hw with rfl | q
  · exact hM.2.2.2.1
  · exact q)
variable {l D dA sC H0}
theorem q_metR {N : Nat} (hB : q_Body l D dA sC H0 N) {d : Nat} {M : qM} {as : List Value} {h : qH} {v : Option Value} {h' : qH} (hM : q_mok M) (hrun : q_run N d M 0 (lv_args 0 as) [] h = some (.inl v, h')) (hw : (lg_sl as).length ≤ M.2.2.2.1) :
    Met l M.2.2.2.2.2.2 (q_ws M) (q_rm d (h'.2.1 - h.2.1) (h'.2.2 - h.2.2)) (q_pre D dA sC H0 as h) (q_Qc D dA sC H0 v h') (h'.2.1 - h.2.1) (h'.2.2 - h.2.2) (fun q => H0.size ≤ q) := by
  refine Met.ofW (cc := M.2.2.1) (maxL := M.2.2.2.1) (ret := M.2.2.2.2.1) hM.2.1 rfl ?_
  intro p e s m args below meth c s₁ B hml hv
  obtain ⟨rfl, hw1, hA⟩ := hv
  have hts := atoms_spec (ws := q_ws M) B.pre
  have hl := lv_entry (as.map (qv (qad H0.size sC))) (n := M.2.2.2.1) (by rw [q_sl]; exact hw)
  have hmono := q_run_mono _ _ _ _ _ _ _ _ _ hrun
  have hex : ∀ x ∈ c.exceptionTable.toList, False := by
    have := B.noHandlers (hts _ List.mem_cons_self)
    intro x hx
    have h0 : c.exceptionTable.toList = [] := by simpa [Array.isEmpty] using this
    rw [h0] at hx; cases hx
  rw [lg_entry_eq]
  generalize (lg_sl (as.map (qv (qad H0.size sC))) ++ List.replicate (M.2.2.2.1 - (lg_sl (as.map (qv (qad H0.size sC)))).length) Slot.unset).toArray = ls at hl ⊢
  rw [← qm_args] at hl
  exact hB d M 0 (lv_args 0 as) [] h (.inl v) h' hM hrun p e s m _ below meth c B.exec B.bytes hml (fun w hw => hts w (List.mem_cons_of_mem _ hw)) (by rw [hM.1]; exact findClass_of_methodNamed B.named) hA hw1.2.2.1 B.returns B.notSynchronized (fun h2 => by rw [(name_of_methodNamed B.named B.method).1]; exact (hM.2.2.2.2.2.2.2 h2).2.1) hex s.heap [] 0 0 ls h.2.1 h.2.2 (h'.2.1 - h.2.1) (h'.2.2 - h.2.2) hw1.2.1 hl hw1 (fun z hz => by cases hz) (by omega) (by omega) (by omega) (by omega)
theorem q_metX {N : Nat} (hB : q_Body l D dA sC H0 N) {d : Nat} {M : qM} {as : List Value} {h : qH} {E : String} {h' : qH} (hM : q_mok M) (hrun : q_run N d M 0 (lv_args 0 as) [] h = some (.inr E, h')) (hw : (lg_sl as).length ≤ M.2.2.2.1) :
    vx_Met l M.2.2.2.2.2.2 (q_ws M) (q_rm d (h'.2.1 - h.2.1) (h'.2.2 - h.2.2)) (q_pre D dA sC H0 as h) (fun _ _ _ _ => False) (q_XC D dA sC H0 E h') (h'.2.1 - h.2.1) (h'.2.2 - h.2.2) (fun q => H0.size ≤ q) := by
  refine vx_ofW (cc := M.2.2.1) (maxL := M.2.2.2.1) (ret := M.2.2.2.2.1) hM.2.1 rfl ?_
  intro p e s m args below meth c s₁ B hml hex hv
  obtain ⟨rfl, hw1, hA⟩ := hv
  have hts := atoms_spec (ws := q_ws M) B.pre
  have hl := lv_entry (as.map (qv (qad H0.size sC))) (n := M.2.2.2.1) (by rw [q_sl]; exact hw)
  have hmono := q_run_mono _ _ _ _ _ _ _ _ _ hrun
  rw [lg_entry_eq]
  generalize (lg_sl (as.map (qv (qad H0.size sC))) ++ List.replicate (M.2.2.2.1 - (lg_sl (as.map (qv (qad H0.size sC)))).length) Slot.unset).toArray = ls at hl ⊢
  rw [← qm_args] at hl
  exact hB d M 0 (lv_args 0 as) [] h (.inr E) h' hM hrun p e s m _ below meth c B.exec B.bytes hml (fun w hw => hts w (List.mem_cons_of_mem _ hw)) (by rw [hM.1]; exact findClass_of_methodNamed B.named) hA hw1.2.2.1 B.returns B.notSynchronized (fun h2 => by rw [(name_of_methodNamed B.named B.method).1]; exact (hM.2.2.2.2.2.2.2 h2).2.1) hex s.heap [] 0 0 ls h.2.1 h.2.2 (h'.2.1 - h.2.1) (h'.2.2 - h.2.2) hw1.2.1 hl hw1 (fun z hz => by cases hz) (by omega) (by omega) (by omega) (by omega)
end QSO
