set_option maxRecDepth 100000 in
theorem q_sys : Cond.native arraycopyName ∈ GW ∧ Cond.static arraycopyName ∈ GW ∧ Cond.initialized "java/lang/System" ∈ GW := ⟨GW_tb (by decide +kernel) rfl, GW_tb (by decide +kernel) rfl, GW_tb (by decide +kernel) rfl⟩
set_option maxRecDepth 100000 in
theorem q_math : (Cond.static Lib.Math.max.name ∈ GW ∧ Cond.code Lib.Math.max.name Lib.Math.max.code 2 (some .int) ∈ GW) ∧ (Cond.static Lib.Math.min.name ∈ GW ∧ Cond.code Lib.Math.min.name Lib.Math.min.code 2 (some .int) ∈ GW) ∧ Cond.initialized "java/lang/Math" ∈ GW := ⟨⟨GW_tb (by decide +kernel) rfl, GW_tb (by decide +kernel) rfl⟩, ⟨GW_tb (by decide +kernel) rfl, GW_tb (by decide +kernel) rfl⟩, GW_tb (by decide +kernel) rfl⟩
set_option maxRecDepth 100000 in
theorem q_oin : Cond.instanceMethod Lib.objectInit ∈ GW ∧ Cond.code Lib.objectInit ⟨#[0xb1]⟩ 1 none ∈ GW := ⟨GW_tb (by decide +kernel) rfl, GW_tb (by decide +kernel) rfl⟩
set_option maxRecDepth 100000 in
theorem q_arr : Cond.arrayClass .int ∈ GW ∧ Cond.arrayClass .byte ∈ GW ∧ Cond.arrayClass .long ∈ GW ∧ Cond.arrayClass .boolean ∈ GW := ⟨GW_tb (by decide +kernel) rfl, GW_tb (by decide +kernel) rfl, GW_tb (by decide +kernel) rfl, GW_tb (by decide +kernel) rfl⟩
theorem q_nfw : 8 + (nativeFrameWords "java/lang/System" "arraycopy" 5 + 11) ≤ 100 := by decide +kernel
section QMX
variable {p : Program} {l : Launch} {e : Env} {R : Room} {s : State} {m : MethodId} {args : Array Value} {below : List Frame} {meth : Method} {c : Code} {H : Heap} {locs : List Loc} {cells slots : Nat} {Q : State → Prop}
variable {cc : ByteArray} {pc : Nat} {ls : Array Slot} {D : va_G} {dA : Nat → ClassId} {sC : qS} {H0 : Heap}
theorem q_newa_eq {t : ArrayType} {st st' : List Value} {h h' : qH} (hm : q_newa t st h = some (st', h')) : ∃ (k : Nat) (i : Int32) (r : List Value), q_aty t = some k ∧ st = .int i :: r ∧ h.2.1 < 1000000000 ∧ ¬ i < 0 ∧ i.toNatClampNeg ≤ 67108864 ∧ st' = .ref h.2.1 :: r ∧ h' = qnew h (.inl (k, i.toNatClampNeg, fun _ => defaultValue (newarray.typeOf t))) i.toNatClampNeg := by
  unfold q_newa at hm
  split at hm
  · split at hm
    · split at hm
      · rename_i hc
        cases hm
        exact ⟨_, _, _, by assumption, rfl, hc.1, hc.2.1, hc.2.2, rfl, rfl⟩
      · cases hm
    · cases hm
  · cases hm
theorem q_up21 (h : qH) (a : Nat) (x : qE) : (qup h a x).2 = h.2 := rfl
set_option maxHeartbeats 4000000 in
theorem q_mem_W (hx : p.tables.exec = Jvm.exec) (hb : c.code = cc) (hG : ∀ w ∈ GW, w.before args s = true) {own : Nat} (hown : s.vm.findClass (oN own) = some m.cls) (hA : qAmb D dA sC H0 s) (hs0 : ∀ q, q < H0.size → s.heap[q]? = H0[q]?) (hs1 : H0.size ≤ s.heap.size) {ini : Bool} (hini : ini = true → meth.name = "<init>") (hml : c.maxLocals = ls.size)
    {i : Instr} {len n0 s0 : Nat} {st st' : List Value} {h h' : qH} (w : qW D dA sC H0 h H) (hlo : ∀ z ∈ locs, H0.size ≤ z.base) (hc : cells + n0 = h.2.1) (hsl : slots + s0 = h.2.2) (hRc : h'.2.1 ≤ R.cells + n0) (hRs : h'.2.2 ≤ R.slots + s0) (hRf : 8 ≤ R.frames) (hRl : 100 ≤ R.locals)
    (hd : decode cc pc = .ok (i, len)) (hlen : len = q_len i) (hm : q_mem own ini i st h = some (st', h'))
    (kk : ∀ (H1 : Heap) (locs1 : List Loc) (cells1 slots1 : Nat), qW D dA sC H0 h' H1 → (∀ z ∈ locs1, H0.size ≤ z.base) → cells1 + n0 = h'.2.1 → slots1 + s0 = h'.2.2 → W p l e R s m args below meth c H1 locs1 cells1 slots1 Q (F0 m (pc + len) ls (st'.map (qv (qad H0.size sC))))) :
    W p l e R s m args below meth c H locs cells slots Q (F0 m pc ls (st.map (qv (qad H0.size sC)))) := by
  obtain ⟨hK, hNW, hAO, hST, hZU, hZS, hZC, hSX⟩ := hA
  unfold q_mem at hm
  split at hm
  · -- getfield
    subst hlen
    unfold q_getf at hm
    split at hm
    · cases hm
    · rename_i k j hf
      obtain ⟨f1, f2, f3⟩ := q_fld_ok hf
      split at hm
      · split at hm
        · rename_i hha
          split at hm
          · rename_i hkk
            subst hkk
            split at hm
            · rename_i hv
              cases hm
              exact q_getf_W hx hb hG hown hK w f1 f2 f3 hha hv hd (kk H locs cells slots w hlo hc hsl)
            · cases hm
          · cases hm
        · cases hm
      · cases hm
  · -- putfield
    subst hlen
    unfold q_putf at hm
    split at hm
    · cases hm
    · rename_i k j hf
      obtain ⟨f1, f2, f3⟩ := q_fld_ok hf
      split at hm
      · split at hm
        · rename_i hha
          split at hm
          · rename_i hcond
            obtain ⟨c1, c2, c3, c4, c5⟩ := hcond
            subst c1
            cases hm
            exact q_putf_W hx hb hG hown hK w f1 f2 f3 hha c2 c3 c4 (c5.imp id (fun q => ⟨hini q.1, q.2⟩)) hlo hd (fun H1 locs1 w1 l1 => kk H1 locs1 cells slots w1 l1 hc hsl)
          · cases hm
        · cases hm
      · cases hm
  · -- iaload
    subst hlen
    unfold q_ald at hm
    split at hm
    · split at hm
      · rename_i hha
        split at hm
        · rename_i hcond
          obtain ⟨c1, c2⟩ := hcond
          have c1 := beq_iff_eq.mp c1
          subst c1
          cases hm
          exact q_iald_W hx hb hK hSX w hha c2 hd (kk H locs cells slots w hlo hc hsl)
        · cases hm
      · cases hm
    · cases hm
  · -- laload
    subst hlen
    unfold q_ald at hm
    split at hm
    · split at hm
      · rename_i hha
        split at hm
        · rename_i hcond
          obtain ⟨c1, c2⟩ := hcond
          have c1 := beq_iff_eq.mp c1
          subst c1
          cases hm
          exact q_lald_W hx hb hK w hha c2 hd (kk H locs cells slots w hlo hc hsl)
        · cases hm
      · cases hm
    · cases hm
  · -- baload
    subst hlen
    unfold q_ald at hm
    split at hm
    · split at hm
      · rename_i hha
        split at hm
        · rename_i hcond
          obtain ⟨c1, c2⟩ := hcond
          simp only [Bool.or_eq_true, beq_iff_eq] at c1
          cases hm
          rcases c1 with rfl | rfl
          · exact q_bald_W hx hb hK w hha c2 hd (kk H locs cells slots w hlo hc hsl)
          · exact q_zald_W hx hb hK w hha c2 hd (kk H locs cells slots w hlo hc hsl)
        · cases hm
      · cases hm
    · cases hm
  · -- aaload
    subst hlen
    unfold q_ald at hm
    split at hm
    · split at hm
      · rename_i hha
        split at hm
        · rename_i hcond
          obtain ⟨c1, c2⟩ := hcond
          simp only [Bool.or_eq_true, beq_iff_eq] at c1
          cases hm
          exact q_aald_W hx hb hK w hha c1 c2 hd (kk H locs cells slots w hlo hc hsl)
        · cases hm
      · cases hm
    · cases hm
  · -- arraylength
    subst hlen
    unfold q_alen at hm
    split at hm
    · split at hm
      · rename_i hha
        split at hm
        · rename_i hcond
          cases hm
          exact q_alen_W hx hb hK hSX w hha hcond hd (kk H locs cells slots w hlo hc hsl)
        · cases hm
      · cases hm
    · cases hm
  · -- iastore
    subst hlen
    unfold q_iast at hm
    split at hm
    · split at hm
      · rename_i hha
        split at hm
        · rename_i hcond
          obtain ⟨c1, c2, c3⟩ := hcond
          subst c1
          cases hm
          exact q_iast_W hx hb hK w hha c2 c3 hlo hd (fun H1 locs1 w1 l1 => kk H1 locs1 cells slots w1 l1 hc hsl)
        · cases hm
      · cases hm
    · cases hm
  · -- lastore
    subst hlen
    unfold q_last at hm
    split at hm
    · split at hm
      · rename_i hha
        split at hm
        · rename_i hcond
          obtain ⟨c1, c2, c3⟩ := hcond
          subst c1
          cases hm
          exact q_last_W hx hb hK w hha c2 c3 hlo hd (fun H1 locs1 w1 l1 => kk H1 locs1 cells slots w1 l1 hc hsl)
        · cases hm
      · cases hm
    · cases hm
  · -- bastore
    subst hlen
    unfold q_bast at hm
    split at hm
    · split at hm
      · rename_i hha
        split at hm
        · rename_i hcond
          obtain ⟨c2, c3⟩ := hcond
          split at hm
          · rename_i c1
            subst c1
            cases hm
            exact q_bast_W hx hb hK w hha c2 c3 hlo hd (fun H1 locs1 w1 l1 => kk H1 locs1 cells slots w1 l1 hc hsl)
          · split at hm
            · rename_i c1
              subst c1
              cases hm
              exact q_zast_W hx hb hK w hha c2 c3 hlo hd (fun H1 locs1 w1 l1 => kk H1 locs1 cells slots w1 l1 hc hsl)
            · cases hm
        · cases hm
      · cases hm
    · cases hm
  · -- aastore
    subst hlen
    unfold q_aast at hm
    split at hm
    · split at hm
      · rename_i hha
        split at hm
        · rename_i hhb
          split at hm
          · rename_i hcond
            obtain ⟨c1, c2, c3⟩ := hcond
            cases hm
            exact q_aast_W hx hb hK w hha hhb c1 c2 c3 hlo hd (fun H1 locs1 w1 l1 => kk H1 locs1 cells slots w1 l1 hc hsl)
          · cases hm
        · cases hm
      · cases hm
    · cases hm
  · -- new
    subst hlen
    unfold q_newo at hm
    split at hm
    · rename_i k hk
      obtain ⟨f1, f2⟩ := q_cls_ok hk
      obtain ⟨f3, f4⟩ := q_inst k f1
      split at hm
      · rename_i hn
        cases hm
        have e1 : (qnew h (.inr (k, (List.range (qN k)).map (fun j => defaultValue (qTy k j)))) (qN k)).2.1 = h.2.1 + 1 := rfl
        have e2 : (qnew h (.inr (k, (List.range (qN k)).map (fun j => defaultValue (qTy k j)))) (qN k)).2.2 = h.2.2 + qN k := rfl
        exact q_new_W hx hb hG hown hK w hn f1 f2 f3 f4 (by omega) (by omega) hd (fun H1 w1 => kk H1 locs _ _ w1 hlo (by omega) (by omega))
      · cases hm
    · cases hm
  · -- newarray
    subst hlen
    obtain ⟨k, i0, r, hk, rfl, c1, c2, c3, rfl, rfl⟩ := q_newa_eq hm
    rename_i t
    have e1 : (qnew h (.inl (k, i0.toNatClampNeg, fun _ => defaultValue (newarray.typeOf t))) i0.toNatClampNeg).2.1 = h.2.1 + 1 := rfl
    have e2 : (qnew h (.inl (k, i0.toNatClampNeg, fun _ => defaultValue (newarray.typeOf t))) i0.toNatClampNeg).2.2 = h.2.2 + i0.toNatClampNeg := rfl
    have key : ((t = .byte ∧ k = 0) ∨ (t = .int ∧ k = 1) ∨ (t = .long ∧ k = 2) ∨ (t = .boolean ∧ k = 3)) ∧ (Cond.arrayClass (newarray.typeOf t)).before args s = true := by
      cases t <;> simp only [q_aty, Option.some.injEq, reduceCtorEq] at hk
      · exact ⟨Or.inr (Or.inr (Or.inr ⟨rfl, hk.symm⟩)), hG _ q_arr.2.2.2⟩
      · exact ⟨Or.inl ⟨rfl, hk.symm⟩, hG _ q_arr.2.1⟩
      · exact ⟨Or.inr (Or.inl ⟨rfl, hk.symm⟩), hG _ q_arr.1⟩
      · exact ⟨Or.inr (Or.inr (Or.inl ⟨rfl, hk.symm⟩)), hG _ q_arr.2.2.1⟩
    exact q_newa_W hx hb hK w c1 key.1 key.2 c2 rfl c3 (by omega) (by omega) hd (fun H1 w1 => kk H1 locs _ _ w1 hlo (by omega) (by omega))
  · -- anewarray
    subst hlen
    unfold q_anew at hm
    split at hm
    · rename_i k hk
      obtain ⟨f1, f2⟩ := q_cls_ok hk
      split at hm
      · rename_i i0 r
        split at hm
        · rename_i hcond
          obtain ⟨c0, c1, c2, c3⟩ := hcond
          cases hm
          have e1 : (qnew h (.inl (if k = 1 then 4 else 5, i0.toNatClampNeg, fun _ => .null)) i0.toNatClampNeg).2.1 = h.2.1 + 1 := rfl
          have e2 : (qnew h (.inl (if k = 1 then 4 else 5, i0.toNatClampNeg, fun _ => .null)) i0.toNatClampNeg).2.2 = h.2.2 + i0.toNatClampNeg := rfl
          rcases c0 with rfl | rfl
          · exact q_anew_W hx hb hG hown hK w c1 (Or.inl ⟨rfl, rfl⟩) f2 hAO.1 c2 rfl c3 (by omega) (by omega) hd (fun H1 w1 => kk H1 locs _ _ w1 hlo (by omega) (by omega))
          · exact q_anew_W hx hb hG hown hK w c1 (Or.inr ⟨rfl, rfl⟩) f2 hAO.2 c2 rfl c3 (by omega) (by omega) hd (fun H1 w1 => kk H1 locs _ _ w1 hlo (by omega) (by omega))
        · cases hm
      · cases hm
    · cases hm
  · -- ldc
    subst hlen
    obtain ⟨v, hv, e9⟩ := Option.map_eq_some_iff.mp hm
    cases e9
    exact lv_ldc hx hb hown (hG _ (q_con_ok hv)) hd (kk H locs cells slots w hlo hc hsl)
  · -- ldc_w
    subst hlen
    obtain ⟨v, hv, e9⟩ := Option.map_eq_some_iff.mp hm
    cases e9
    exact lv_ldcw hx hb hown (hG _ (q_con_ok hv)) hd (kk H locs cells slots w hlo hc hsl)
  · -- ldc2_w
    subst hlen
    obtain ⟨v, hv, e9⟩ := Option.map_eq_some_iff.mp hm
    cases e9
    exact lv_ldc2 hx hb hown (hG _ (q_conL_ok hv)) hd (kk H locs cells slots w hlo hc hsl)
  · -- getstatic
    subst hlen
    split at hm
    · rename_i hcond
      obtain ⟨rfl, rfl⟩ := hcond
      cases hm
      have hl9 : (Cond.fieldLinkNest "PatternTrier$Sets" 27 "PatternTrier" "CLASSES" "[I" "PatternTrier").before args s = true := va_Nw.use rfl (hNW _ (List.mem_append_left _ (by decide +kernel)))
      obtain ⟨cf, kf, fi, f, a, cell, g1, g2, g3, g4, g5, g6, g7, g8⟩ := hZC
      have ha : a < H0.size := (Array.getElem?_eq_some_iff.mp g5).1
      have key := kk H locs cells slots w hlo hc hsl
      have hq : qv (qad H0.size sC) (.ref 1000000000) = .ref sC.1.1 := by show Value.ref (qad H0.size sC 1000000000) = _; unfold qad; rw [if_pos rfl]
      rw [List.map_cons, hq] at key
      exact va_WgetsN hx hb hown hl9 g1 g2 g3 g4 (by rw [w.2.2.1 a ha]; exact g5) (fun e => by rw [e] at g6; cases g6) g7 rfl hd key
    · cases hm
  · -- Object.<init>
    subst hlen
    split at hm
    · rename_i ho
      split at hm
      · split at hm
        · rename_i hr
          cases hm
          refine W.objInit hx hb hown (hG _ (q_obj_ok ho)) (hG _ q_oin.1) (hG _ q_oin.2) rfl hml.symm rfl hd (by omega) ?_ (kk H locs cells slots w hlo hc hsl)
          have := q_cats (ad := qad H0.size sC) hr
          show 2 * 0 + _ + 12 ≤ _
          omega
        · cases hm
      · cases hm
    · cases hm
  · -- Math, arraycopy
    subst hlen
    split at hm
    · rename_i b hb9
      have hl9 := q_mm_ok hb9
      split at hm
      · split at hm
        · rename_i hr
          have hr := q_cats (ad := qad H0.size sC) hr
          cases hm
          cases b
          · exact va_mmin hx hb hml hown (hG _ hl9) (hG _ q_math.2.1.1) (hG _ q_math.2.2) (hG _ q_math.2.1.2) (by omega) (by omega) (by omega) (by omega) hd (kk H locs cells slots w hlo hc hsl)
          · exact va_mmax hx hb hml hown (hG _ hl9) (hG _ q_math.1.1) (hG _ q_math.2.2) (hG _ q_math.1.2) (by omega) (by omega) (by omega) (by omega) hd (kk H locs cells slots w hlo hc hsl)
        · cases hm
      · cases hm
    · split at hm
      · rename_i hcp
        have hl9 := q_cpy_ok hcp
        unfold q_copy at hm
        split at hm
        · split at hm
          · rename_i hha0
            split at hm
            · rename_i hha1
              split at hm
              · rename_i hcond
                obtain ⟨c1, c2, c3, c3b, c4, c5, c6, c7, c8, c9, c10⟩ := hcond
                subst c1
                cases hm
                have hr := q_cats (ad := qad H0.size sC) c10
                have hn9 := q_nfw
                exact q_copy_W hx hb hml hown (hG _ hl9) (hG _ q_sys.1) (hG _ q_sys.2.1) (hG _ q_sys.2.2) hK w hha0 hha1 c2 c3 c3b c4 c5 c6 c7 c8 (fun i hi => List.all_eq_true.mp c9 i (List.mem_range.mpr hi)) (by omega) (by omega) hlo hd (fun H1 locs1 w1 l1 => kk H1 locs1 cells slots w1 l1 hc hsl)
              · cases hm
            · cases hm
          · cases hm
        · cases hm
      · cases hm
  · cases hm
end QMX
