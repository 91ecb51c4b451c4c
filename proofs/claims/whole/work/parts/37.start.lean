def R_law : String := "FairquotaBrokerLaw"
def lw_P (b : Addr) (xs : List Int32) (args : Array Value) (s : State) : Prop := args = #[.ref b] ∧ s.IntsAt b xs ∧ xs.length ≤ 2560 ∧ (Jvm.Cond.and given_1 narrow_1).before args s = true
/-- what a walk over the start with the record d0 says of its end, said of the start itself -/
theorem lw_closed {s t : State} {o : Outcome} {d0 : Drawn} {L : List Loc} {k n : Nat} (hd0 : s.drawn.sameBut d0 lw_cs) (hv : ∃ v, o = .returned v) (hW : (s.setDrawn d0).WarmedH t.vm) (hs : (s.setDrawn d0).sameButNew ({ t with vm := s.vm } : State) L k n) : State.butDraws s t lw_cs (fun t1 => Framed s o t1 L k n) := by
  have h2 : t.drawn = d0 := congrArg State.drawn hs.1
  refine ⟨⟨hv, hW, State.sameButNew.setDrawn hs s.drawn⟩, ?_, by decide⟩
  rw [h2]
  exact hd0
def lw_Q (_ : Array Value) (s : State) (o : Outcome) (t : State) : Prop := o = .returned (some (.int 1)) ∧ State.butDraws s t lw_cs (fun t1 => Framed s o t1 [] 603072 7178346)
def lw_Z (below : List Frame) (a : Array Value) (s : State) : State → Prop := fun t => ∃ o, t.status = .running ∧ Ended t below o ∧ lw_Q a s o t
/-- the law's own end, with 1 on the stack, nothing written that was there before, its room as the claim has it; d0: the record of draws at this point (at the entry s.drawn: begin with 'refine W.base ?_' and 'have hd0 := Drawn.sameBut.refl s.drawn lw_cs') -/
theorem lw_ret {p : Program} {l : Launch} {e : Env} {s : State} {m : MethodId} {below : List Frame} {meth : Method} {c : Code} {b : Nat} {d0 : Drawn} (hd0 : s.drawn.sameBut d0 lw_cs) (hx : p.tables.exec = Jvm.exec) (hb : c.code = code) (hr : meth.sig.returnType = ret) (hlocks : meth.locks = false) {pc : Nat} {H : Heap} {ls : Array Slot} (hdg : decode code pc = .ok (.ireturn, 1)) : W p l e room_1 (s.setDrawn d0) m #[Value.ref b] below meth c H [] 603072 7178346 (lw_Z below #[Value.ref b] s) (F0 m pc ls [.int 1]) := by
  intro T hT X
  obtain ⟨fs, hret, hrun, hended, hW, hframe⟩ := X.leave (v := some (.int 1)) (hlocks := hlocks) (fun h => by rw [hr] at h; cases h)
  have hmeth' : T.vm.method? m = some meth := X.method'
  refine ⟨T.setFrames fs, ?_, .returned (some (.int 1)), hrun, hended, rfl, lw_closed hd0 ⟨_, rfl⟩ hW hframe⟩
  jvm_step X.here [X.here.top, hx, hb, hdg, hmeth', hr, ret, narrow_b1]
  (try refine ⟨rfl, ?_⟩); (try refine ⟨rfl, ?_⟩)
  first | (intro acts; rw [hret _ acts rfl rfl rfl]) | rw [hret _ _ rfl rfl rfl]
  exact Steps.refl _
/-- what holds at the law's entry: the machine, the code, the tables' words (any of lw_tbl by 'hts w (by decide +kernel)'), the script of L ints xs at the cell b, what the Statement gives of the start (any of its parts by flat_of_before) -/
def lw_At (p : Program) (s : State) (m : MethodId) (meth : Method) (c : Code) (b L : Nat) (xs : Nat → Int32) : Prop :=
  p.tables.exec = Jvm.exec ∧ c.code = code ∧ meth.sig.returnType = ret ∧ c.maxLocals = 9 ∧ s.vm.findClass R_law = some m.cls ∧ (∀ w ∈ lw_tbl, w.before #[Value.ref b] s = true) ∧ va_X b L xs s s.heap ∧ b < s.heap.size ∧ meth.locks = false ∧ (Jvm.Cond.and given_1 narrow_1).before #[Value.ref b] s = true

-- ===== the law's entry =====
theorem st_exact {A : Array Value} {s : State} {t : Term} {nm : String} (h : (Cond.exactly t nm).before A s = true) : ∃ a : Nat, t.eval A s none [] s = some (.ref a) := by
  unfold Cond.before at h
  unfold Cond.holds at h
  cases ht : t.eval A s none [] s with
  | none => simp [Cond.value, ht] at h
  | some v =>
    cases v with
    | ref a => exact ⟨a, rfl⟩
    | null => cases hf : s.vm.findClass nm <;> simp [Cond.value, ht, hf] at h
    | _ => simp [Cond.value, ht] at h
theorem st_eq {A : Array Value} {s : State} {t : Term} {k : Int32} (h : (Cond.eq t (.int k)).before A s = true) : t.eval A s none [] s = some (.int k) := by
  unfold Cond.before at h
  unfold Cond.holds at h
  cases ht : t.eval A s none [] s with
  | none => simp [Cond.value, ht] at h
  | some v =>
    cases v with
    | int a => simp [Cond.value, ht, Term.eval] at h; rw [h]
    | _ => simp [Cond.value, ht, Term.eval] at h
theorem st_arr {A : Array Value} {s : State} {ty : FieldType} (h : (Cond.arrayClass ty).before A s = true) (hty : ∀ C, ty ≠ .object C) : ∃ c, ArrOfT s c ty ∧ va_RA s c ty := by
  obtain ⟨c, k, comp, h1, h2, h3⟩ := Cond.arrayClass_spec (show Cond.holds A s none s [] (Cond.arrayClass ty) = true from h)
  refine ⟨c, fun n z => ⟨fun k h => (by cases h), k, h2, comp, h3⟩, ?_⟩
  cases ty with
  | object C => exact absurd rfl (hty C)
  | _ => exact h1
theorem st_obj {A : Array Value} {s : State} {n : String} (h : (Cond.arrayOver (.object n)).before A s = true) : ∃ c, ArrOfT s c (.object n) ∧ va_RA s c (.object n) := by
  obtain ⟨comp, c, k, h1, h2, h3, h4, h5⟩ := Cond.arrayOver_spec (show Cond.holds A s none s [] (Cond.arrayOver (.object n)) = true from h)
  exact ⟨c, fun n z => ⟨fun k h => (by cases h), k, h3, comp, h4⟩, k, comp, h3, h4, h1, h5⟩
theorem st_strs : ∀ q ∈ fStrs, Cond.stringRef RX3 q.1 q.2 ∈ tables_1 ∧ Cond.exactly (.string RX3 q.1) "java/lang/String" ∈ flatC (Jvm.Cond.and given_1 narrow_1) := by decide +kernel
theorem st_ncs : ∀ q ∈ fNcs, Cond.not (.castable q.1 q.2) ∈ flatC (Jvm.Cond.and given_1 narrow_1) := by decide +kernel
theorem st_nw {w : Cond} (h : fcd w = true) : w.onTables = true := by cases w <;> first | rfl | (simp [fcd] at h)
/-- an empty memory -/
def st_S (e mi : Nat) : fMS := ([], fun _ => 0, fun _ => 0, fun _ _ => 0, fun _ _ => 0, fun _ _ => none, e, mi)
theorem st_flags {l : Launch} (h : l.flags = flags0) : l.stackTraces = false := by
  unfold Launch.stackTraces
  rw [h]
  decide

theorem inlJ0 : ∀ w ∈ u_ws RJ0 TJ0 4, w ∈ tables_1 := fun w hw => ((goodIn_r (u_ws RJ0 TJ0 4) [668, 670, 672, 674] (by decide +kernel) (by decide +kernel)) w hw).1
theorem inlJ4 : ∀ w ∈ u_ws RJ4 TJ4 4, w ∈ tables_1 := fun w hw => ((goodIn_r (u_ws RJ4 TJ4 4) [435, 437, 439, 441] (by decide +kernel) (by decide +kernel)) w hw).1
theorem inlJx00060 : ∀ w ∈ u_ws RJx00060 TJx00060 6, w ∈ tables_1 := fun w hw => ((goodIn_r (u_ws RJx00060 TJx00060 6) [724, 725, 726, 727, 728, 729] (by decide +kernel) (by decide +kernel)) w hw).1
set_option maxHeartbeats 4000000 in
set_option maxRecDepth 100000 in
theorem st_main {p : Program} {e : Env} {s : State} {m : MethodId} {below : List Frame} {meth : Method} {c : Code} (l : Launch) (hflags : l.stackTraces = false) {b L : Nat} {xs : Nat → Int32} (C0 : lw_At p s m meth c b L xs)
    (h : ∀ e mi : Nat, wp_L_law (st_S e mi) 0 L xs) : W p l e room_1 s m #[Value.ref b] below meth c s.heap [] 0 0 (lw_Z below #[Value.ref b] s) (entryFrame m ([Value.ref b] : List Value).toArray 9) := by
  obtain ⟨hx, hb, hr, hml, hown, hts, hX, hbl, hlocks, hgv⟩ := id C0
  have hs := flat_of_before _ hgv
  have hA : ∀ a : Nat, a < s.heap.size → ¬ s.heap.size ≤ a := fun a h => Nat.not_le.mpr h
  have htb : ∀ w ∈ tables_1, w.before #[Value.ref b] s = true := fun w hw => hts w (List.mem_append_right _ hw)
  have hfb : ∀ w ∈ fBig, w.before #[Value.ref b] s = true := fun w hw => hts w (List.mem_filter.mp hw).1
  obtain ⟨c0, i0, k0⟩ := u_known (C := RJ0) (T := TJ0) (N := 4) (n := 4) htb inlJ0 (htb (.instantiable RJ0 4) (List.mem_of_getElem? (i := 582) (by decide +kernel)))
  obtain ⟨c1, i1, k1⟩ := u_known (C := RJ4) (T := TJ4) (N := 4) (n := 4) htb inlJ4 (htb (.instantiable RJ4 4) (List.mem_of_getElem? (i := 414) (by decide +kernel)))
  obtain ⟨c2, i2, k2⟩ := u_known (C := RJx00060) (T := TJx00060) (N := 6) (n := 6) htb inlJx00060 (htb (.instantiable RJx00060 6) (List.mem_of_getElem? (i := 720) (by decide +kernel)))
  obtain ⟨c3, i3, k3⟩ := u_known (C := RJx4a65c) (T := TJx4a65c) (N := 3) (n := 3) hfb inlJx4a65c (htb (.instantiable RJx4a65c 3) (List.mem_of_getElem? (i := 41) (by decide +kernel)))
  obtain ⟨c4, i4, k4⟩ := u_known (C := RX0) (T := TX0) (N := 8) (n := 8) hfb inlX0 (htb (.instantiable RX0 8) (List.mem_of_getElem? (i := 871) (by decide +kernel)))
  obtain ⟨c5, i5, k5⟩ := u_known (C := RX1) (T := TX1) (N := 4) (n := 4) hfb inlX1 (htb (.instantiable RX1 4) (List.mem_of_getElem? (i := 1027) (by decide +kernel)))
  obtain ⟨c6, i6, k6⟩ := u_known (C := RX2) (T := TX2) (N := 14) (n := 14) hfb inlX2 (htb (.instantiable RX2 14) (List.mem_of_getElem? (i := 67) (by decide +kernel)))
  obtain ⟨c7, i7, k7⟩ := u_known (C := RX3) (T := TX3) (N := 11) (n := 11) hfb inlX3 (htb (.instantiable RX3 11) (List.mem_of_getElem? (i := 33) (by decide +kernel)))
  obtain ⟨c8, i8, k8⟩ := u_known (C := RX4) (T := TX4) (N := 33) (n := 33) hfb inlX4 (htb (.instantiable RX4 33) (List.mem_of_getElem? (i := 1150) (by decide +kernel)))
  obtain ⟨dC, dI, hKc⟩ : ∃ (dC : Nat → ClassId) (dI : Nat → Nat → Nat), ∀ (k : Nat) (q : vw_C), vwCl[k]? = some q → u_Kn s q.1 q.2.1 q.2.2 (dC k) (dI k) := by
    refine ⟨fun k => [c0, c1, c2, c3, c4, c5, c6, c7, c8].getD k c0, fun k => [i0, i1, i2, i3, i4, i5, i6, i7, i8].getD k i0, ?_⟩
    intro k q hq
    match k, hq with
    | 0, hq => cases hq; exact k0
    | 1, hq => cases hq; exact k1
    | 2, hq => cases hq; exact k2
    | 3, hq => cases hq; exact k3
    | 4, hq => cases hq; exact k4
    | 5, hq => cases hq; exact k5
    | 6, hq => cases hq; exact k6
    | 7, hq => cases hq; exact k7
    | 8, hq => cases hq; exact k8
    | k + 9, hq => simp [vwCl] at hq
  obtain ⟨cI, aI1, aI2⟩ := st_arr (ty := .int) (htb _ (List.mem_of_getElem? (i := 1255) (by decide +kernel))) (fun C z => by cases z)
  obtain ⟨cJ, aJ1, aJ2⟩ := st_arr (ty := .long) (htb _ (List.mem_of_getElem? (i := 1256) (by decide +kernel))) (fun C z => by cases z)
  obtain ⟨cZ, aZ1, aZ2⟩ := st_arr (ty := .boolean) (htb _ (List.mem_of_getElem? (i := 1257) (by decide +kernel))) (fun C z => by cases z)
  obtain ⟨cD, aD1, aD2⟩ := st_arr (ty := .double) (htb _ (List.mem_of_getElem? (i := 1519) (by decide +kernel))) (fun C z => by cases z)
  obtain ⟨cO, aO1, aO2⟩ := st_obj (n := "java/lang/Object") (htb _ (List.mem_of_getElem? (i := 182) (by decide +kernel)))
  obtain ⟨tE, hE1, hE2⟩ := va_Tof (args := #[Value.ref b]) (s := s) (tm := .static "java/util/ArrayList" "DEFAULTCAPACITY_EMPTY_ELEMENTDATA" "[Ljava/lang/Object;") (ty := .object "java/lang/Object") (N := 0) (f := fun _ => .null) (A := fun q => s.heap.size ≤ q) (by decide) (hs _ (by decide +kernel)) (st_eq (hs _ (by decide +kernel))) (fun j hj => absurd hj (Nat.not_lt_zero j)) hA
  obtain ⟨mi, hMi⟩ := va_Mi.of (args := #[Value.ref b]) (s := s) (C := "[Ljava/lang/Object;") (hs _ (by decide +kernel))
  have hZ : va_Z "java/util/ArrayList" "DEFAULTCAPACITY_EMPTY_ELEMENTDATA" "[Ljava/lang/Object;" (.ref tE) (fun q => s.heap.size ≤ q) s s.heap := va_Zref (htb _ (List.mem_of_getElem? (i := 53) (by decide +kernel))) (htb _ (List.mem_of_getElem? (i := 4) (by decide +kernel))) hE1 hA
  have hU : vx_Zq Bundle.tN "UNASSIGNED_STACK" Bundle.steD (fun q => s.heap.size ≤ q) s s.heap := vx_Zqof (args := #[Value.ref b]) (htb _ (List.mem_of_getElem? (i := 391) (by decide +kernel))) (htb _ (List.mem_of_getElem? (i := 11) (by decide +kernel))) (hs _ (by decide +kernel)) hA
  have hSu : vx_Zq Bundle.tN "SUPPRESSED_SENTINEL" Bundle.listD (fun q => s.heap.size ≤ q) s s.heap := vx_Zqof (args := #[Value.ref b]) (htb _ (List.mem_of_getElem? (i := 393) (by decide +kernel))) (htb _ (List.mem_of_getElem? (i := 11) (by decide +kernel))) (hs _ (by decide +kernel)) hA
  have hT : fT s := by
    refine ⟨fun q hq => ?_, va_AO.of (htb _ (List.mem_of_getElem? (i := 182) (by decide +kernel))), fun w hw hc => va_Nw.of (st_nw hc) (htb w hw), fun q hq => va_Nc.of (hs _ (st_ncs q hq))⟩
    obtain ⟨sa, hsa⟩ := st_exact (hs _ (st_strs q hq).2)
    exact ⟨sa, vk_R.of (htb _ (st_strs q hq).1) hsa⟩
  have hK : va_K (dC, dI) vwCl [(cI, .int), (cJ, .long), (cZ, .boolean), (cO, .object "java/lang/Object"), (cD, .double)] s := by
    refine ⟨hKc, fun k q hq => ?_⟩
    match k, hq with
    | 0, hq => cases hq; exact ⟨aI1, aI2⟩
    | 1, hq => cases hq; exact ⟨aJ1, aJ2⟩
    | 2, hq => cases hq; exact ⟨aZ1, aZ2⟩
    | 3, hq => cases hq; exact ⟨aO1, aO2⟩
    | 4, hq => cases hq; exact ⟨aD1, aD2⟩
    | k + 5, hq => simp at hq
  obtain ⟨G, hG⟩ : ∃ G : fG, G = ((dC, dI), cI, cJ, cZ, cO, cD, s.heap.size, hsl s.heap) := ⟨_, rfl⟩
  obtain ⟨F, hFF⟩ : ∃ F : fX, F = ((p, l, e, room_1, s, m, #[Value.ref b], below, meth, c), lw_Z below #[Value.ref b] s, 9, G) := ⟨_, rfl⟩
  have hF : fOk F cL_law RL 19 := by
    subst hFF hG
    exact ⟨hx, hb, hml, hown, hfb, ⟨Nat.le_of_ble_eq_true rfl, Nat.le_of_ble_eq_true rfl, Nat.le_of_ble_eq_true rfl, Nat.le_of_ble_eq_true rfl⟩, ⟨Nat.le_refl _, Nat.le_refl _⟩, hlocks, hflags, hT⟩
  have hE : ∀ (S : fMS) (n pc : Nat) (l : List (Option fAV)), decode code pc = .ok (.ireturn, 1) → fV F S n pc l [aI 1] := by
    intro S n pc l' hd
    subst hFF hG
    refine fV.of fun H locs cells slots ls hB hH hS hl => ?_
    refine va_forget (fun q hq => hS.2.2 q hq) ?_
    have hn := hH.2.2.2.2.2
    have hB1 : cells + s.heap.size ≤ s.heap.size + n := hB.1
    have hB2 : slots + hsl s.heap ≤ hsl s.heap + n := hB.2
    refine W.widen (k := 603072) (n := 7178346) (by omega) (by omega) ?_
    exact lw_ret (Drawn.sameBut.refl s.drawn lw_cs) hx hb hr hlocks hd
  have hH : fH G (st_S tE mi) 0 s s.heap := by
    subst hG
    refine ⟨fun k q h => by simp [st_S, sL, va_pl] at h, ⟨fun i j p q h => by simp [st_S, sL, va_pl] at h, fun k q h => by simp [st_S, sL, va_pl] at h⟩, hK, ⟨hZ, hE2, hMi, hU, hSu⟩, rfl, Nat.zero_le _⟩
  have k := mc_L_law (F := F) (lv := 19) (b := b) (sc := xs) (L := L) (Nat.le_refl _) hF (by rw [hFF]; rfl) (by rw [hFF]; exact hr) (by rw [hFF]; exact hX) (by rw [hFF, hG]; exact hbl) hE (h tE mi)
  subst hFF
  have hl := lv_entry ([Value.ref b]) (n := 9) (Nat.le_of_ble_eq_true rfl)
  rw [lg_entry_eq]
  have hl2 : fok ((lg_sl ([Value.ref b]) ++ List.replicate (9 - (lg_sl ([Value.ref b])).length) Slot.unset).toArray) 9 [some (aR (some b)), none, none, none, none, none, none, none, none] := hl
  exact k.to (F := ((p, l, e, room_1, s, m, #[Value.ref b], below, meth, c), lw_Z below #[Value.ref b] s, 9, G)) ⟨by subst hG; show 0 + s.heap.size ≤ s.heap.size + 0; omega, by subst hG; show 0 + hsl s.heap ≤ hsl s.heap + 0; omega⟩ hH va_S.rf hl2

