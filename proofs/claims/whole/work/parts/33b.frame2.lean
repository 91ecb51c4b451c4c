theorem fw_c366 : Cond.castable "java/lang/IndexOutOfBoundsException" "java/lang/IndexOutOfBoundsException" ∈ tables_1 := List.mem_of_getElem? (i := 366) (by decide +kernel)
theorem fw_c615 : Cond.castable "java/lang/IllegalArgumentException" "java/lang/IllegalArgumentException" ∈ tables_1 := List.mem_of_getElem? (i := 615) (by decide +kernel)
theorem fw_c756 : Cond.castable "java/lang/IllegalStateException" "java/lang/IllegalStateException" ∈ tables_1 := List.mem_of_getElem? (i := 756) (by decide +kernel)
theorem fw_c801 : Cond.castable "java/lang/UnsupportedOperationException" "java/lang/UnsupportedOperationException" ∈ tables_1 := List.mem_of_getElem? (i := 801) (by decide +kernel)
theorem fw_c927 : Cond.castable "java/util/NoSuchElementException" "java/util/NoSuchElementException" ∈ tables_1 := List.mem_of_getElem? (i := 927) (by decide +kernel)
theorem fw_c1132 : Cond.castable "java/lang/ArithmeticException" "java/lang/ArithmeticException" ∈ tables_1 := List.mem_of_getElem? (i := 1132) (by decide +kernel)
-- ===== methods with a table of handlers; the script =====
section
variable {F : fX} {S : fMS} {n pc : Nat} {l : List (Option fAV)} {st stk : List fAV} {cc : ByteArray} {own : String} {lv : Nat}
theorem fV_callVXh {k b index lv' maxL na : Nat} {r : Option Nat} {C : String} {T : u_T} {y : MethodName} {bytes : ByteArray} {ret : Option FieldType} {As : List fAV} {post : Option fAV → fMS → Nat → Prop} {postX : String → fMS → Nat → Prop} (hF : fOk F cc own lv) (hM : fCX (xl F) y (.code y bytes maxL ret) lv' (xG F) (aR (some b) :: As) S n post postX)
    (hk : fKind k C T) (he : r = some b) (hA : isA S k b) (hlv : lv' + 1 ≤ lv) (h0 : Cond.code y bytes maxL ret ∈ fBig) (h1 : Cond.methodLink own index y ∈ fBig) (h2 : Cond.instanceMethod y ∈ fBig) (h3 : Cond.selects C y y ∈ fBig) (h4 : Cond.initialized C ∈ fBig)
    (hy : y.cls = C ∧ y.cls ≠ "java/lang/invoke/MethodHandle" ∧ y.cls ≠ "java/lang/invoke/VarHandle" ∧ (parseMethodDescriptor y.desc).map (fun d => d.parameters.length) = some na) (hna : As.length = na) (hmL : maxL ≤ 60) (hst : (st.map fcat).sum ≤ 8) (hd : decode cc pc = .ok (.invokevirtual index, 3)) (hstk : stk = As.reverse ++ aR r :: st)
    (kx : ∀ (E : String) (S' : fMS) (n' q : Nat), postX E S' n' → fVX F S' n' pc l st E q) (kk : ∀ (rv : Option fAV) (S' : fMS) (n' : Nat), post rv S' n' → fV F S' n' (pc + 3) l (rv.toList ++ st)) : fV F S n pc l stk := by
  subst he
  subst hna
  refine fV_ofRunX (lv' := lv') (postX := postX) (aa := (Value.ref b :: As.map fv).toArray) hF (fun T locs cells slots ls X hB hH hS hl => ?_) kx kk
  obtain ⟨q0, hq⟩ := hH.at hA.1
  obtain ⟨rr, hr, cell, c1, c2, c3, -⟩ := hH.1 q0 _ (hq.trans (congrArg (fun e => some (b, e)) (cell_obj hA.2 hk.1)))
  obtain ⟨-, hfc, -⟩ := hH.2.2.1.1 _ _ hk.2.1
  refine vx_runV (As := As.map fv) (rest := st.map fv) ⟨hF.1, hF.2.1, hF.2.2.1, hF.2.2.2.1, hF.2.2.2.2.1⟩ hM (cwV As.length hF.2.2.2.2.1 (fgood h0 h1 h2 h3 h4) rfl rfl rfl hy (froom2 hF hlv hmL)) ⟨fPc.blind, ⟨cell, c1, by rw [c3]; rfl, by rw [c2]; exact hfc⟩, fun U hU hW => ⟨rfl, fHd.call hF X hB hH hS U hU hW⟩⟩ rfl (by simp) hl.1 ?_ ?_ hd (froom hF hB hH.2.2.2.2.2 hlv)
  · show stk.map fv = _
    rw [hstk]
    simp [fv, aR, va_rf]
  · show 2 * 0 + _ ≤ 8
    rw [fcats]; omega
theorem fV_callSXH {index lv' maxL na : Nat} {y : MethodName} {bytes : ByteArray} {ret : Option FieldType} {As : List fAV} {hh : List (Nat × Nat × Nat × Nat)} {post : Option fAV → fMS → Nat → Prop} (hF : fOk F cc own lv) (hM : fCX (xl F) y (.codeWith y bytes maxL ret hh) lv' (xG F) As S n post (fun _ _ _ => False))
    (hlv : lv' + 1 ≤ lv) (h0 : Cond.codeWith y bytes maxL ret hh ∈ fBig) (h1 : Cond.methodLink own index y ∈ fBig) (h2 : Cond.static y ∈ fBig) (h4 : Cond.initialized y.cls ∈ fBig)
    (hy : y.cls ≠ "java/lang/invoke/MethodHandle" ∧ y.cls ≠ "java/lang/invoke/VarHandle" ∧ (parseMethodDescriptor y.desc).map (fun d => d.parameters.length) = some na) (hna : As.length = na) (hmL : maxL ≤ 60) (hst : (st.map fcat).sum ≤ 8) (hd : decode cc pc = .ok (.invokestatic index, 3)) (hstk : stk = As.reverse ++ st)
    (kk : ∀ (rv : Option fAV) (S' : fMS) (n' : Nat), post rv S' n' → fV F S' n' (pc + 3) l (rv.toList ++ st)) : fV F S n pc l stk := by
  subst hna
  refine fV_ofRunX (lv' := lv') (postX := fun _ _ _ => False) (aa := (As.map fv).toArray) hF (fun T locs cells slots ls X hB hH hS hl => ?_) (fun E S' n' q hp => hp.elim) kk
  refine vx_runSX (hh := hh) (As := As.map fv) (rest := st.map fv) ⟨hF.1, hF.2.1, hF.2.2.1, hF.2.2.2.1, hF.2.2.2.2.1⟩ hM (vx_cwSW As.length hF.2.2.2.2.1 (fgoodSa h0 h1 h2 h4) rfl rfl rfl hy (froom2 hF hlv hmL)) ⟨fPc.blind, fun U hU hW => ⟨rfl, fHd.call hF X hB hH hS U hU hW⟩⟩ rfl (by simp) hl.1 ?_ ?_ hd (froom hF hB hH.2.2.2.2.2 hlv)
  · show stk.map fv = _
    rw [hstk]
    simp
  · show 2 * 0 + _ ≤ 8
    rw [fcats]; omega
theorem fVX_catch {E : String} {q : Nat} {hh : List (Nat × Nat × Nat × Nat)} {s0 e0 hp ct : Nat} (hF : fOk F cc own lv) (htab : (xc F).exceptionTable.toList = tableOf hh) (i : Nat) (he : hh[i]? = some (s0, e0, hp, ct)) (hpre : ∀ z ∈ hh.take i, z.2.2.2 ≠ 0 ∧ ∃ nm, Cond.classLink own z.2.2.2 nm ∈ fBig ∧ (E, nm) ∈ fNcs) (hcov : s0 ≤ pc ∧ pc < e0) (h0 : ct ≠ 0) (hlink : Cond.classLink own ct E ∈ fBig) (hcast : Cond.castable E E ∈ tables_1) (k : fV F S n hp l [aR (some q)]) : fVX F S n pc l st E q := by
  intro T locs cells slots ls ce X hB hH hS hl c1 c2 c3
  have hsplit : (xc F).exceptionTable.toList = tableOf (hh.take i) ++ (⟨s0, e0, hp, ct⟩ : ExceptionTableEntry) :: tableOf (hh.drop (i + 1)) := by
    have hi : i < hh.length := (List.getElem?_eq_some_iff.mp he).1
    have e1 : hh = hh.take i ++ (s0, e0, hp, ct) :: hh.drop (i + 1) := by
      have e2 : hh[i] = (s0, e0, hp, ct) := (List.getElem?_eq_some_iff.mp he).2
      rw [← e2, List.getElem_cons_drop, List.take_append_drop]
    rw [htab]
    conv => lhs; rw [e1]
    simp [tableOf]
  refine vx_catch (name := E) (E := E) (ce := ce) (H := T.heap) hF.2.2.2.1 (tableOf (hh.take i)) ⟨s0, e0, hp, ct⟩ (tableOf (hh.drop (i + 1))) hsplit (fun z hz => ?_) ?_ h0 (hF.2.2.2.2.1 _ hlink) (fcd_use rfl (hF.2.2.2.2.2.2.2.2.2.2.2.1 _ hcast rfl)) c1 c2 c3 (k.to hB hH hS hl) T rfl X
  · obtain ⟨w, hw, rfl⟩ := List.mem_map.mp hz
    obtain ⟨g1, nm, g2, g3⟩ := hpre w hw
    exact Or.inr ⟨g1, nm, hF.2.2.2.2.1 _ g2, hF.2.2.2.2.2.2.2.2.2.2.2.2 _ g3⟩
  · simp only [covers, Bool.and_eq_true, decide_eq_true_eq]
    exact hcov
theorem fV_slen (hF : fOk F cc own lv) {b L : Nat} {xs' : Nat → Int32} (hX : va_X b L xs' (xs F) (xs F).heap) (hb : b < fgz (xG F)) (hd : decode cc pc = .ok (.arraylength, 1)) (kk : fV F S n (pc + 1) l (aI (Int32.ofNat L) :: st)) : fV F S n pc l (aR (some b) :: st) := by
  refine fV.of fun H locs cells slots ls hB hH hS hl => ?_
  exact va_slen (A := fgA (xG F)) hF.1 hF.2.1 hX (Nat.lt_of_lt_of_le hb hF.2.2.2.2.2.2.1.1) (Nat.not_le.mpr hb) hS hd (kk.to hB hH hS hl)
theorem fV_sld (hF : fOk F cc own lv) {b L : Nat} {xs' : Nat → Int32} {i : Int32} (hX : va_X b L xs' (xs F) (xs F).heap) (hb : b < fgz (xG F)) (hi : vp_in i L) (hd : decode cc pc = .ok (.iaload, 1)) (kk : fV F S n (pc + 1) l (aI (xs' i.toNatClampNeg) :: st)) : fV F S n pc l (aI i :: aR (some b) :: st) := by
  refine fV.of fun H locs cells slots ls hB hH hS hl => ?_
  exact va_sld (A := fgA (xG F)) hF.1 hF.2.1 hX (Nat.lt_of_lt_of_le hb hF.2.2.2.2.2.2.1.1) (Nat.not_le.mpr hb) hS hi hd (kk.to hB hH hS hl)
end
theorem fCXH_of {l : Launch} {y : MethodName} {cc : ByteArray} {maxL : Nat} {ret : Option FieldType} {lv : Nat} {G : fG} {av : List fAV} {S : fMS} {n : Nat} {hh : List (Nat × Nat × Nat × Nat)} {post : Option fAV → fMS → Nat → Prop} {postX : String → fMS → Nat → Prop} (hfl : l.stackTraces = false) (hy : plainName y.cls = true) (hc1 : ∀ v ∈ av, fcat v = 1) (hlen : av.length ≤ maxL)
    (body : ∀ F : fX, fOk F cc y.cls lv → xn F = maxL → xl F = l → xG F = G → (xM F).sig.returnType = ret → (xM F).name = y.name → (xc F).exceptionTable.toList = tableOf hh → fEndX F lv post postX → fV F S n 0 (fentry av maxL) []) : fCX l y (.codeWith y cc maxL ret hh) lv G av S n post postX := by
  refine vx_ofWH (cc := cc) (maxL := maxL) (ret := ret) (hh := hh) hy rfl ?_
  intro p e s m args below meth c s1 B hml hv
  obtain ⟨rfl, ⟨hH, hbd, hz⟩, hT⟩ := hv
  have hts : ∀ w ∈ Cond.codeWith y cc maxL ret hh :: fBig, w.before (av.map fv).toArray s = true := atoms_spec (ws := Cond.codeWith y cc maxL ret hh :: fBig) B.pre
  have k := body ((p, l, e, fRoom lv, s, m, (av.map fv).toArray, below, meth, c), vx_MQ below (fQc G post) (fXc G postX) (av.map fv).toArray s (30000 * lv) (30000 * lv) (fgA G), maxL, G)
    ⟨B.exec, B.bytes, hml, findClass_of_methodNamed B.named, fun w hw => hts w (List.mem_cons_of_mem _ hw), ⟨Nat.le_refl _, Nat.le_refl _, Nat.le_refl _, Nat.le_refl _⟩, hz, B.notSynchronized, hfl, hT⟩ rfl rfl rfl B.returns (name_of_methodNamed B.named B.method).1 (vx_table (x := y) B (hts _ List.mem_cons_self)) rfl
  have hl := lv_entry (av.map fv) (n := maxL) (by rw [flg_len av hc1]; exact hlen)
  rw [lg_entry_eq]
  have hl2 : fok ((lg_sl (av.map fv) ++ List.replicate (maxL - (lg_sl (av.map fv)).length) Slot.unset).toArray) maxL (fentry av maxL) := ⟨hl.1, hl.2.1, fun q hq => hl.2.2 q (fentry_mem av maxL 0 hc1 q hq)⟩
  exact k.to (F := ((p, l, e, fRoom lv, s, m, (av.map fv).toArray, below, meth, c), vx_MQ below (fQc G post) (fXc G postX) (av.map fv).toArray s (30000 * lv) (30000 * lv) (fgA G), maxL, G)) ⟨by show 0 + s.heap.size ≤ fgz G + n; omega, by show 0 + hsl s.heap ≤ fgs G + n; omega⟩ hH va_S.rf hl2
